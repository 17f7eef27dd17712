/** The edges of promises 24 to 27. */
final class ChangesEdges extends Edges {
    ChangesEdges(Sentences sentences) {
        super(sentences);
    }

    @Override
    void hold() {
        image();
        back();
        whatAnImageKeeps();
        undo();
        redo();
        whatIsAChange();
        latestFirst();
        noOtherBehind();
        forty();
    }

    private void image() {
        of(24, "AN IMAGE is kept: how many PEOPLE.");
        is("nobody", new OpenOrTake().image(), 0);
        is("one", people(1).image(), 1);
        is("seven", opened(7, 7).image(), 7);
        OpenOrTake x = opened(3, 1);
        x.image();
        x.open();
        is("another one", x.image(), 3);
        x.anew();
        x.back();
        is("the latest one is kept", x.count(1), 1);
        unchangedByImage();
    }

    /** But for what back() does then. */
    private void unchangedByImage() {
        for (int part = 0; part < Told.PARTS; part++) {
            OpenOrTake x = lived();
            x.image();
            OpenOrTake y = lived();
            if (part != 5) {
                is("an image changes part " + part, Told.part(x, part).equals(Told.part(y, part)) ? 0 : 1, 0);
            }
        }
    }

    private void back() {
        of(25, "It is laid back: how many PEOPLE.");
        OpenOrTake x = opened(7, 2);
        x.image();
        x.goOn();
        is("seven", x.back(), 7);
        is("as it was", x.count(1), 5);
        x.goOn();
        is("once more", x.back(), 7);
        is("as it was", x.count(1), 5);
        x = new OpenOrTake();
        x.image();
        is("nobody", x.back(), 0);

        of(25, "STATE: there is none");
        refused("of nobody", STATE, OpenOrTake::new, y -> y.back());
        refused("of seven", STATE, () -> opened(7, 2), y -> y.back());
        of(25, "or PEOPLE came since.");
        refused("a person", STATE, () -> cameSince(1), y -> y.back());
        refused("behind an image of nobody", STATE, () -> cameSince(0), y -> y.back());
        refused("people from a row", STATE, ChangesEdges::cameSinceByRow, y -> y.back());
        x = cameSince(2);
        is("a new one", x.image(), 3);
        is("is laid back", x.back(), 3);
        x = people(2);
        x.image();
        is("a person is refused", x.person(3), BAD);
        is("from a row that is missing none comes", x.people(0, 0, 1), 0);
        is("so none came since", x.back(), 2);
    }

    private static OpenOrTake cameSince(int n) {
        OpenOrTake x = people(n);
        x.image();
        x.person(0);
        return x;
    }

    private static OpenOrTake cameSinceByRow() {
        OpenOrTake x = people(2);
        x.row(0, 0, 1);
        x.image();
        x.people(0, 0, 1);
        return x;
    }

    /** Person 2, the first of the lot, was robbed of 0 by 1, an image was kept, and all went on; AGAIN is 1. */
    private static OpenOrTake laidBack() {
        OpenOrTake x = people(3);
        x.swap(2);
        x.mend(0, 4, 1);
        x.open();
        x.take(0);
        x.image();
        x.goOn();
        x.again();
        x.anew();
        x.swap(10);
        x.goOn();
        x.back();
        return x;
    }

    private void whatAnImageKeeps() {
        of(24, "AN IMAGE keeps THE LOT");
        for (int place = 0; place < 3; place++) {
            is("place " + place, laidBack().of(place, 10), 2 - place);
        }
        of(24, "who has what");
        is("who took 0", laidBack().of(1, 11), 0);
        is("who was robbed", laidBack().of(2, 11), NOT);
        is("wrapped ones", laidBack().count(1), 2);
        of(24, "how often PARCELS were TAKEN");
        is("0", laidBack().of(0, 12), 1);
        is("1", laidBack().of(1, 12), 0);
        of(24, "whose TURN it is");
        is("who was robbed", laidBack().turn(), 2);
        OpenOrTake x = laidBack();
        x.open();
        is("then the next of the lot", x.turn(), 0);
        of(24, "what was taken just now");
        is("not back at once", laidBack().take(0), NOT);
        of(24, "whether AGAIN was");
        x = laidBack();
        x.goOn();
        is("it was not", x.again() >= 0 ? 1 : 0, 1);
        x.image();
        x.anew();
        x.back();
        is("it was", x.again(), STATE);
        of(24, "what LED tells.");
        is("who", laidBack().led(0), 1);
        is("what", laidBack().led(1), 0);
        is("how many", laidBack().led(2), 2);
        x = people(2);
        x.image();
        x.open();
        x.back();
        is("no turn yet: how many", x.led(2), 0);
        is("no turn yet: who", x.led(0), STATE);
        x.image();
        x.mend(0, 0, 9);
        x.mend(0, 3, 1);
        x.back();
        is("nothing else: a worth", x.of(0, 0), 9);
        is("nothing else: MOST", x.of(0, 3), 1);
    }

    private void undo() {
        of(26, "UNDONE: how many may still be.");
        OpenOrTake x = mended(3);
        is("two", x.undo(), 2);
        is("one", x.undo(), 1);
        is("none", x.undo(), 0);
        of(26, "STATE: none.");
        refused("no change was", STATE, () -> people(2), y -> y.undo());
        refused("all were undone", STATE, () -> undone(3, 3), y -> y.undo());
        refused("forty were undone", STATE, () -> undone(45, 40), y -> y.undo());
    }

    /** Worth 0 for 0 became 1, 2 and so on. */
    private static OpenOrTake mended(int times) {
        OpenOrTake x = people(2);
        for (int v = 1; v <= times; v++) {
            x.mend(0, 0, v);
        }
        return x;
    }

    private static OpenOrTake undone(int times, int back) {
        OpenOrTake x = mended(times);
        for (int i = 0; i < back; i++) {
            x.undo();
        }
        return x;
    }

    private void redo() {
        of(27, "DONE AGAIN: how many may still be.");
        OpenOrTake x = undone(3, 3);
        is("two", x.redo(), 2);
        is("one", x.redo(), 1);
        is("none", x.redo(), 0);
        of(27, "STATE: none.");
        refused("no change was", STATE, () -> people(2), y -> y.redo());
        refused("none was undone", STATE, () -> mended(3), y -> y.redo());
        refused("all were done again", STATE, ChangesEdges::redone, y -> y.redo());
    }

    private static OpenOrTake redone() {
        OpenOrTake x = undone(45, 40);
        for (int i = 0; i < 40; i++) {
            x.redo();
        }
        return x;
    }

    private void whatIsAChange() {
        of(26, "CHANGES (WORTHS, LIKES, WAYS; MOST, AGAIN) can be UNDONE");
        int[][] changes = {{10, 0, 99, 0}, {10, 1, 0, 5}, {1, 2, 2, 0}, {0, 3, 1, 3}, {0, 4, 1, 0}};
        for (int[] change : changes) {
            OpenOrTake x = people(2);
            x.mend(change[0], change[1], change[2]);
            is("one", x.count(4), 1);
            is("undone", x.undo(), 0);
            is("as at first", x.of(change[0], change[1]), change[3]);
            is("done again", x.redo(), 0);
            is("as it became", x.of(change[0], change[1]), change[2]);
            is("to what it is: no change", x.mend(change[0], change[1], change[2]), change[2]);
            is("still one", x.count(4), 1);
        }
        OpenOrTake x = people(2);
        x.mend(0, 0, 100);
        is("a refused one is none", x.count(4), 0);
        x.swap(1);
        Due.law(x, "o");
        x.goOn();
        x.image();
        x.anew();
        x.face(0);
        is("nothing else is one", x.undo(), STATE);
    }

    private void latestFirst() {
        of(26, "the latest first");
        OpenOrTake x = people(2);
        x.mend(0, 0, 7);
        x.mend(0, 3, 1);
        x.mend(0, 0, 9);
        x.undo();
        is("the third", x.of(0, 0), 7);
        is("not the second", x.of(0, 3), 1);
        x.undo();
        is("the second", x.of(0, 3), 3);
        is("not the first", x.of(0, 0), 7);
        x.undo();
        is("the first", x.of(0, 0), 0);
        x.redo();
        is("the first again", x.of(0, 0), 7);
        is("not the second", x.of(0, 3), 3);
    }

    private void noOtherBehind() {
        of(27, "and DONE AGAIN (as long as no other came behind);");
        OpenOrTake x = undone(3, 2);
        x.mend(11, 0, 5);
        is("another came behind", x.redo(), STATE);
        is("one and the other", x.count(4), 2);
        x.undo();
        is("the other one", x.redo(), 0);
        is("is done again", x.of(11, 0), 5);
        x = undone(3, 2);
        is("a refused one", x.mend(11, 0, 100), BAD);
        is("loses nothing", x.redo(), 1);
        x = undone(3, 2);
        is("one to what it is", x.mend(0, 0, 1), 1);
        is("loses nothing", x.redo(), 1);
        x = undone(3, 2);
        x.open();
        x.image();
        is("turns and images lose nothing", x.redo(), 1);
        x = undone(40, 40);
        x.mend(11, 0, 5);
        is("another came behind forty", x.redo(), STATE);
        is("it is one", x.count(4), 1);
    }

    private void forty() {
        of(26, "40 at most are kept.");
        for (int times : new int[] {39, 40, 41, 60, 80}) {
            int kept = Math.min(times, 40);
            is("kept of " + times, mended(times).count(4), kept);
            is("undone one of " + times, mended(times).undo(), kept - 1);
            OpenOrTake x = undone(times, kept);
            is("worth behind all of " + times, x.of(0, 0), times - kept);
            refused("one more of " + times, STATE, () -> undone(times, kept), y -> y.undo());
            for (int i = kept - 1; i >= 0; i--) {
                is("done again of " + times, x.redo(), i);
            }
            is("as it was", x.of(0, 0), times);
        }
        unlikeOnes();
    }

    /** WAYS, MOST, WORTHS and LIKES, of which ten are kept no more. */
    private void unlikeOnes() {
        OpenOrTake x = people(5);
        int[][] changes = new int[50][];
        for (int i = 0; i < 50; i++) {
            int pn = 10 * (i % 5) + (i + 1 + i / 5) % 5;
            changes[i] = i % 10 == 3 ? new int[] {i / 10, 2, 2}
                    : i % 10 == 4 ? new int[] {0, 3, 1 + i / 10 % 2}
                    : i % 2 == 0 || pn / 10 == pn % 10 ? new int[] {pn, 0, i + 1} : new int[] {pn, 1, i % 5};
        }
        int[] before = new int[50];
        for (int i = 0; i < 50; i++) {
            before[i] = x.mend(changes[i][0], changes[i][1], changes[i][2]);
            is("a change, " + i, before[i] != changes[i][2] ? 1 : 0, 1);
        }
        is("changes", x.count(4), 40);
        for (int i = 49; i >= 10; i--) {
            is("undone", x.undo(), i - 10);
            is("as it was ahead of " + i, x.of(changes[i][0], changes[i][1]), before[i]);
        }
        is("no more", x.undo(), STATE);
        for (int i = 10; i < 50; i++) {
            is("done again", x.redo(), 49 - i);
            is("as it was behind " + i, x.of(changes[i][0], changes[i][1]), changes[i][2]);
        }
        is("no more", x.redo(), STATE);
    }
}
