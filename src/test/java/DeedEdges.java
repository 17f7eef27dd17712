/** The edges of promises 9 to 15, and of what an evening, a GUESS, a WAY and AGAIN are. */
final class DeedEdges extends Edges {
    DeedEdges(Sentences sentences) {
        super(sentences);
    }

    @Override
    void hold() {
        turns();
        opens();
        takes();
        safe();
        anEvening();
        goesOn();
        guess();
        ofMostWorth();
        ofWhomItLikesLeast();
        again();
        againIsFor();
        whatAgainDoes();
        anew();
        led();
    }

    /** Who is robbed has its TURN: person 1 has just taken parcel 0 from person 0. */
    private static OpenOrTake robbed(int n) {
        OpenOrTake x = opened(n, 1);
        x.take(0);
        return x;
    }

    private static OpenOrTake endedWithAgain(int n) {
        OpenOrTake x = opened(n, n);
        x.mend(0, 4, 1);
        return x;
    }

    private void turns() {
        of(9, "Whose TURN it is.");
        OpenOrTake x = people(3);
        is("the first", x.turn(), 0);
        x.swap(20);
        is("the first by another lot", x.turn(), 2);
        x.open();
        is("the second", x.turn(), 1);
        is("one was robbed", robbed(3).turn(), 0);
        is("the last of seven", opened(7, 6).turn(), 6);

        of(9, "NOT.");
        is("there is nobody", new OpenOrTake().turn(), NOT);
        is("one has opened", opened(1, 1).turn(), NOT);
        is("seven have", opened(7, 7).turn(), NOT);

        of(9, "IN DEED: whose TURN it is (NOT: the EVENING has ended but for AGAIN, or there is nobody)");
        x = endedWithAgain(3);
        is("but for AGAIN", x.turn(), NOT);
        x.again();
        is("behind AGAIN", x.turn(), NOT);
    }

    private void opens() {
        of(10, "It OPENS: the PARCEL.");
        OpenOrTake x = people(7);
        x.swap(6);
        for (int parcel = 0; parcel <= 6; parcel++) {
            is("parcels by numbers, whoever opens", x.open(), parcel);
        }
        is("the first one's", x.of(6, 11), 0);
        is("the last one's", x.of(0, 11), 6);
        is("who was robbed opens the next", robbed(2).open(), 1);

        of(10, "STATE: it is nobody's TURN.");
        refused("nobody is there", STATE, OpenOrTake::new, y -> y.open());
        refused("the evening has ended", STATE, () -> opened(7, 7), y -> y.open());
        refused("it has ended but for AGAIN", STATE, () -> endedWithAgain(2), y -> y.open());
        refused("an evening of one", STATE, () -> opened(1, 1), y -> y.open());
    }

    private void takes() {
        of(11, "It TAKES a PARCEL: from whom.");
        OpenOrTake x = opened(7, 6);
        is("parcel 5 from its opener", x.take(5), 5);
        is("parcel 0 from its opener", x.take(0), 0);
        x = robbed(3);
        x.open();
        is("parcel 0 from who has taken it", x.take(0), 1);

        of(11, "BAD");
        for (int parcel : new int[] {3, 7, -1, MIN, MAX}) {
            refused("take(" + parcel + ")", BAD, () -> opened(3, 1), y -> y.take(parcel));
        }
        is("BAD ahead of STATE, nobody is there", new OpenOrTake().take(0), BAD);
        is("BAD ahead of STATE, it has ended", opened(3, 3).take(3), BAD);

        of(11, "STATE: it is nobody's TURN");
        refused("it has ended", STATE, () -> opened(3, 3), y -> y.take(0));
        refused("it has ended, the last parcel", STATE, () -> opened(3, 3), y -> y.take(2));
        refused("it has ended but for AGAIN", STATE, () -> endedWithAgain(3), y -> y.take(1));
        x = robbed(2);
        x.open();
        x.mend(0, 3, 1);
        is("it has ended: ahead of NOT for a SAFE one", x.take(0), STATE);

        of(11, "NOT: it may not.");
        refused("nothing is open", NOT, () -> people(3), y -> y.take(0));
        refused("the next wrapped one", NOT, () -> opened(3, 1), y -> y.take(1));
        refused("the last wrapped one", NOT, () -> opened(3, 1), y -> y.take(2));
        refused("back at once", NOT, () -> robbed(3), y -> y.take(0));
        refused("a SAFE one", NOT, () -> takenTimes(1, 1), y -> y.take(0));
    }

    /** Parcel 0 was taken so often, and its last holder's robbed one has opened; MOST is so much. */
    private static OpenOrTake takenTimes(int times, int most) {
        OpenOrTake x = people(7);
        x.mend(0, 3, most);
        x.open();
        for (int i = 0; i < times; i++) {
            x.take(0);
            x.open();
        }
        return x;
    }

    private void safe() {
        of(11, "how often a PARCEL may be TAKEN; then it is SAFE.");
        for (int most = 1; most <= 3; most++) {
            int all = most;
            is("once less than MOST " + most, takenTimes(most - 1, most).take(0) >= 0 ? 1 : 0, 1);
            is("none is SAFE", takenTimes(most - 1, most).count(2), 0);
            refused("as often as MOST " + most, NOT, () -> takenTimes(all, all), y -> y.take(0));
            is("one is SAFE", takenTimes(most, most).count(2), 1);
            is("another one is not", takenTimes(most, most).take(1) >= 0 ? 1 : 0, 1);
        }
        OpenOrTake x = takenTimes(2, 3);
        x.mend(0, 3, 1);
        is("more often than MOST", x.count(2), 1);
        is("more often than MOST", x.take(0), NOT);
        x.mend(0, 3, 3);
        is("not any more", x.take(0) >= 0 ? 1 : 0, 1);
    }

    private void anEvening() {
        of(12, "AN EVENING: one by one by THE LOT;");
        OpenOrTake x = people(3);
        x.swap(20);
        for (int who = 2; who >= 0; who--) {
            is("its turn", x.turn(), who);
            x.open();
        }
        of(12, "one in its TURN OPENS (the WRAPPED PARCEL of least number is its own then, open)");
        x = opened(3, 2);
        is("the least wrapped one", x.open(), 2);
        is("its own", x.of(2, 11), 2);
        is("open", x.of(2, 13), 0);
        of(12, "or TAKES an open one from who has it");
        x = robbed(3);
        is("it has it", x.of(1, 11), 0);
        is("who had it has none", x.of(0, 11), NOT);
        of(12, "if it is not SAFE");
        x = takenTimes(3, 3);
        is("a SAFE one", x.take(0), NOT);
        of(12, "and was not taken from it just now");
        x = robbed(3);
        is("just now", x.take(0), NOT);
        x.open();
        x.take(1);
        is("not just now, for another one was since", x.take(0), 1);
        is("from another one it was", x.take(1), 2);
        is("that one may not", x.take(1), NOT);
        x = robbed(3);
        x.open();
        is("somebody has opened since", x.take(0), 1);
        is("now from 1", x.take(0), NOT);
        of(12, "(it is TAKEN once more)");
        is("once", robbed(3).of(0, 12), 1);
        is("twice", takenTimes(2, 3).of(0, 12), 2);
        is("an opened one never", takenTimes(2, 3).of(1, 12), 0);
        of(12, "who is robbed has a TURN at once;");
        x = opened(4, 3);
        x.take(1);
        is("1", x.turn(), 1);
        x.take(2);
        is("2", x.turn(), 2);
        x.take(0);
        is("0", x.turn(), 0);
        of(12, "till somebody OPENS: then the next of THE LOT.");
        x = opened(5, 3);
        x.take(1);
        x.take(2);
        x.open();
        is("the next behind who took first", x.turn(), 4);
        of(12, "It ends as all have one.");
        x = opened(3, 2);
        x.take(0);
        is("one has none", x.turn(), 0);
        x.open();
        is("all have one", x.turn(), NOT);
        is("an evening of one", opened(1, 1).turn(), NOT);
        of(12, "(With nothing WRAPPED nobody has a TURN but by AGAIN.)");
        is("open", opened(3, 3).open(), STATE);
        is("take", opened(3, 3).take(0), STATE);
        is("goOn", opened(3, 3).goOn(), 0);
        is("AGAIN", endedWithAgain(3).again(), 0);
    }

    private void goesOn() {
        of(12, "TURNS by WAYS till the EVENING has ended: how many.");
        is("nobody", new OpenOrTake().goOn(), 0);
        is("one", people(1).goOn(), 1);
        is("seven", people(7).goOn(), 7);
        is("the last one", opened(7, 6).goOn(), 1);
        is("it has ended", opened(7, 7).goOn(), 0);
        is("one was robbed", robbed(7).goOn(), 6);
        OpenOrTake x = endedWithAgain(3);
        x.mend(1, 0, 9);
        is("AGAIN is no part of it", x.goOn(), 0);
        is("so it may be", x.again(), 1);
        of(12, "it OPENS, TAKES, or goes on by its WAY;");
        x = people(3);
        x.mend(10, 0, 50);
        x.open();
        is("1 takes, 0 opens, 2 opens", x.goOn(), 3);
        is("1 has it", x.of(1, 11), 0);
        is("all as it ends", x.count(1), 0);
    }

    /** With which parcel person 2 of five goes home: 0 and 1 lie open, nobody else wishes to take. */
    private int chosen(int way, int like0, int like1, int... worths) {
        OpenOrTake x = people(5);
        x.mend(2, 2, way);
        for (int parcel = 0; parcel < 5; parcel++) {
            x.mend(20 + parcel, 0, worths[parcel]);
        }
        x.mend(20, 1, like0);
        x.mend(21, 1, like1);
        x.goOn();
        return x.of(2, 11);
    }

    private void guess() {
        of(12, "GUESS: the mean of one's WORTHS of all WRAPPED ones (cut).");
        for (int way = 0; way <= 1; way++) {
            is("4 is no more than 12 / 3", chosen(way, 5, 5, 4, 0, 4, 4, 4), 2);
            is("5 is more than 12 / 3", chosen(way, 5, 5, 5, 0, 4, 4, 4), 0);
            is("4 is more than 11 / 3, cut", chosen(way, 5, 5, 4, 0, 4, 4, 3), 0);
            is("3 is not", chosen(way, 5, 5, 3, 0, 4, 4, 3), 2);
            is("all wrapped ones count", chosen(way, 5, 5, 33, 0, 0, 0, 99), 2);
            is("34 is more than 99 / 3", chosen(way, 5, 5, 34, 0, 99, 0, 0), 0);
            is("open ones do not count", chosen(way, 5, 5, 1, 99, 0, 0, 0), way == 0 ? 1 : 0);
            is("0 is no more than 0", chosen(way, 5, 5, 0, 0, 0, 0, 0), 2);
        }
        OpenOrTake x = people(2);
        x.mend(10, 0, 98);
        x.mend(11, 0, 99);
        is("98 is no more than one wrapped of 99", x.goOn(), 2);
        x.anew();
        x.mend(10, 0, 99);
        x.mend(11, 0, 98);
        is("99 is more than one of 98", x.goOn(), 3);
    }

    private void ofMostWorth() {
        of(12, "A WAY: 0 it TAKES of all it may that with most WORTH");
        is("0", chosen(0, 5, 5, 9, 8, 1, 1, 1), 0);
        is("1", chosen(0, 5, 5, 8, 9, 1, 1, 1), 1);
        is("whatever it likes", chosen(0, 0, 9, 8, 9, 1, 1, 1), 1);
        is("not a SAFE one", ofSafeOne(0), 1);
        is("not what was taken from it just now", ofJustTaken(0), 1);
        of(12, "(of like ones the least number)");
        is("0 and 1 alike", chosen(0, 5, 5, 9, 9, 1, 1, 1), 0);
        of(12, "if that is more than GUESS; else it OPENS.");
        is("as much as GUESS", chosen(0, 5, 5, 7, 7, 7, 7, 7), 2);
        is("one more", chosen(0, 5, 5, 7, 8, 7, 7, 7), 1);
        is("nothing lies open", people(1).goOn(), 1);
    }

    /** Parcel 0, SAFE, with 1, and 1, not so, with 0: with which person 2 goes home, to whom 0 is worth more. */
    private int ofSafeOne(int way) {
        OpenOrTake x = people(4);
        x.mend(2, 2, way);
        x.mend(0, 3, 1);
        x.mend(20, 0, 90);
        x.mend(21, 0, 80);
        x.open();
        x.take(0);
        x.open();
        x.goOn();
        return x.of(2, 11);
    }

    /** Person 0 was robbed of 0 just now, which it wishes most. */
    private int ofJustTaken(int way) {
        OpenOrTake x = people(4);
        x.mend(0, 2, way);
        x.mend(0, 0, 90);
        x.mend(1, 0, 80);
        x.open();
        x.open();
        x.take(0);
        x.goOn();
        return x.of(0, 11);
    }

    private void ofWhomItLikesLeast() {
        of(12, "1 it TAKES of all it may, whose WORTH is more than GUESS, from whom it LIKES least");
        is("from 0", chosen(1, 3, 4, 8, 9, 1, 1, 1), 0);
        is("from 1", chosen(1, 4, 3, 9, 8, 1, 1, 1), 1);
        is("0 is the least", chosen(1, 1, 0, 9, 8, 1, 1, 1), 1);
        is("9 will do", chosen(1, 9, 9, 9, 8, 1, 1, 1), 0);
        is("just what is more than GUESS", chosen(1, 9, 0, 8, 7, 7, 7, 7), 0);
        is("not a SAFE one", ofSafeOne(1), 1);
        is("not what was taken from it just now", ofJustTaken(1), 1);
        is("from who has it, not from whose number it has", ofHolder(), 0);
        is("the first person too", ofFirst(3), 2);
        is("the first person too", ofFirst(8), 1);
        of(12, "(of like ones the least PARCEL); else it OPENS.");
        is("0 and 1 alike", chosen(1, 4, 4, 8, 9, 1, 1, 1), 0);
        is("none is more than GUESS", chosen(1, 0, 0, 7, 7, 7, 7, 7), 2);
    }

    /** Person 0 likes 1 by 7 and 2 by so much, and takes what one of them has opened. */
    private int ofFirst(int like) {
        OpenOrTake x = opened(5, 3);
        x.mend(0, 2, 1);
        x.mend(1, 0, 9);
        x.mend(2, 0, 9);
        x.mend(1, 1, 7);
        x.mend(2, 1, like);
        x.take(0);
        x.goOn();
        return x.of(0, 11);
    }

    /** Person 1 has 0, person 0 has 1: person 2 likes 1 least. */
    private int ofHolder() {
        OpenOrTake x = people(4);
        x.mend(2, 2, 1);
        x.mend(20, 0, 80);
        x.mend(21, 0, 80);
        x.mend(20, 1, 9);
        x.mend(21, 1, 1);
        x.open();
        x.take(0);
        x.open();
        x.goOn();
        return x.of(2, 11);
    }

    private void again() {
        of(13, "AGAIN: the PARCEL that the first one has then.");
        OpenOrTake x = people(3);
        x.swap(1);
        x.goOn();
        x.mend(12, 0, 9);
        x.mend(0, 4, 1);
        is("the first of the lot is 1", x.again(), 2);
        is("an evening of one", endedWithAgain(1).again(), 0);
        is("it stays with its own", endedWithAgain(3).again(), 0);

        of(13, "STATE: AGAIN is 0");
        refused("AGAIN is 0", STATE, () -> opened(3, 3), y -> y.again());
        of(13, "or it was");
        refused("it was, and changed something", STATE, () -> againWas(9), y -> y.again());
        refused("it was, and changed nothing", STATE, () -> againWas(0), y -> y.again());
        of(13, "or the EVENING has not ended.");
        refused("one is wrapped", STATE, () -> withAgain(opened(3, 2)), y -> y.again());
        refused("it has not begun", STATE, () -> withAgain(people(3)), y -> y.again());
        refused("one was robbed", STATE, () -> withAgain(robbed(2)), y -> y.again());
        refused("nobody is there", STATE, () -> withAgain(new OpenOrTake()), y -> y.again());
        x = endedWithAgain(3);
        x.anew();
        is("all are wrapped again", x.again(), STATE);
    }

    private static OpenOrTake withAgain(OpenOrTake x) {
        x.mend(0, 4, 1);
        return x;
    }

    /** AGAIN was; parcel 1 was worth so much for the first one, and another is worth more since. */
    private static OpenOrTake againWas(int worth) {
        OpenOrTake x = endedWithAgain(3);
        x.mend(1, 0, worth);
        x.again();
        x.mend(2, 0, 99);
        return x;
    }

    private void againIsFor() {
        of(13, "the first of THE LOT once more at the end.");
        OpenOrTake x = people(3);
        x.swap(2);
        x.mend(21, 0, 5);
        x.goOn();
        x.mend(0, 4, 1);
        x.again();
        is("the first is 2", x.of(2, 11), 1);
        is("1 had it", x.of(1, 11), 0);
        of(13, "AGAIN once, as it has ended.");
        is("not twice", x.again(), STATE);
        x.anew();
        x.goOn();
        is("once in each evening", x.again(), 1);
        of(13, "AGAIN: at the end the first of THE LOT may change its PARCEL for another one that is not SAFE:");
        is("a SAFE one stays", againBeside(1), 2);
        is("taken once, MOST 2", againBeside(2), 0);
        is("its own may be SAFE", againWithSafe(), 2);
        of(13, "for that with most WORTH for it");
        is("parcel 2", againBy(1, 5, 9, 7), 2);
        is("parcel 3", againBy(1, 5, 8, 9), 3);
        of(13, "if more than its own has");
        is("as much", againBy(5, 5, 5, 5), 0);
        is("one more", againBy(5, 5, 6, 5), 2);
        is("one less", againBy(5, 4, 4, 4), 0);
        of(13, "(of like ones the least number)");
        is("1 and 3", againBy(1, 9, 5, 9), 1);
        is("2 and 3", againBy(1, 2, 9, 9), 2);
    }

    /** Worths for 0, the first of four, whose own is 0: its parcel behind AGAIN. */
    private int againBy(int... worths) {
        OpenOrTake x = endedWithAgain(4);
        for (int parcel = 0; parcel < 4; parcel++) {
            x.mend(parcel, 0, worths[parcel]);
        }
        return x.again();
    }

    /** 0, the first, has 1; 0 was taken once, and is what it wishes most, then 2. */
    private int againBeside(int most) {
        OpenOrTake x = robbed(3);
        x.open();
        x.open();
        x.mend(0, 3, most);
        x.mend(0, 4, 1);
        x.mend(0, 0, 9);
        x.mend(2, 0, 5);
        return x.again();
    }

    /** MOST is 1; 0, the first, has taken 1 and wishes 2. */
    private int againWithSafe() {
        OpenOrTake x = opened(3, 2);
        x.mend(0, 3, 1);
        x.take(0);
        x.take(1);
        x.open();
        x.mend(0, 4, 1);
        x.mend(1, 0, 3);
        x.mend(2, 0, 4);
        return x.again();
    }

    private void whatAgainDoes() {
        of(13, "the other one has its old one then;");
        OpenOrTake x = againWas(9);
        is("the first has 1", x.of(0, 11), 1);
        is("who had 1 has 0", x.of(1, 11), 0);
        is("a third one's stays", x.of(2, 11), 2);
        of(13, "that counts as TAKEN, and as a TURN, if it changes.");
        is("1 was taken", x.of(1, 12), 1);
        is("0 was not", x.of(0, 12), 0);
        is("turns", x.led(2), 4);
        is("who had the latest", x.led(0), 0);
        is("what it got", x.led(1), 1);
        x = againWas(0);
        is("it changed nothing: nothing was taken", x.of(0, 12) + x.of(1, 12) + x.of(2, 12), 0);
        is("no turn", x.led(2), 3);
        is("the latest stays", x.led(0), 2);
        x = endedWithAgain(2);
        x.mend(0, 3, 1);
        x.mend(1, 0, 9);
        x.again();
        is("what was taken is SAFE with MOST 1", x.count(2), 1);
    }

    private void anew() {
        of(14, "ANEW: how many PEOPLE.");
        is("nobody", new OpenOrTake().anew(), 0);
        is("seven", opened(7, 3).anew(), 7);
        is("nobody has had a turn", people(2).anew(), 2);
        of(14, "ANEW: all are WRAPPED again.");
        OpenOrTake x = takenTimes(3, 3);
        x.anew();
        is("wrapped", x.count(1), 7);
        for (int i = 0; i < 7; i++) {
            is("parcel " + i, x.of(i, 13), 1);
            is("nobody has one", x.of(i, 11), NOT);
        }
        is("none is SAFE", x.count(2), 0);
        is("the first has a turn", x.turn(), 0);
        is("nothing lies open", x.take(0), NOT);
        is("the least number", x.open(), 0);
        is("it may be taken", x.take(0), 0);
        x = opened(3, 2);
        x.take(1);
        x.anew();
        is("who was robbed has no turn by that", x.turn(), 0);
        of(14, "(New PEOPLE come, THE LOT changes only before the first TURN.)");
        x = opened(3, 3);
        is("not behind the last", x.person(0), STATE);
        is("not behind the last", x.swap(1), STATE);
        x.anew();
        is("before the first", x.person(0), 3);
        is("before the first", x.swap(3), 3);
        x.open();
        is("behind the first", x.person(0), STATE);
        is("behind the first", x.swap(3), STATE);
    }

    private void led() {
        of(15, "LED: who (what 0), what it got (1), how many TURNS (2).");
        OpenOrTake x = people(3);
        x.swap(2);
        x.open();
        is("2 opened", x.led(0), 2);
        is("parcel 0", x.led(1), 0);
        is("a turn", x.led(2), 1);
        x.take(0);
        is("1 took", x.led(0), 1);
        is("parcel 0", x.led(1), 0);
        is("two turns", x.led(2), 2);
        is("the rest", x.goOn(), 2);
        is("0 opened", x.led(0), 0);
        is("parcel 2", x.led(1), 2);
        of(15, "LED: who had the latest TURN; what it got; how many TURNS so far.");
        is("four turns", x.led(2), 4);
        x.anew();
        is("so far, behind anew too", x.led(2), 4);
        is("who had the latest", x.led(0), 0);
        is("what it got", x.led(1), 2);
        x.open();
        is("the next", x.led(2), 5);
        is("by 2", x.led(0), 2);
        of(15, "BAD;");
        for (int what : new int[] {-1, 3, MIN, MAX}) {
            refused("led(" + what + ")", BAD, Edges::lived, y -> y.led(what));
        }
        is("BAD ahead of STATE", people(2).led(3), BAD);
        of(15, "STATE (0, 1): no TURN yet.");
        refused("who", STATE, () -> people(3), y -> y.led(0));
        refused("what", STATE, () -> people(3), y -> y.led(1));
        is("nobody is there: who", new OpenOrTake().led(0), STATE);
        is("how many, no turn yet", people(3).led(2), 0);
    }
}
