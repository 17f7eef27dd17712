/** Promises 7 and 8: the tape, texts and their faults, and what a law's number is. */
public final class LawTest {
    private static final Due due = new Due("LawTest");

    public static void main(String[] args) {
        withoutAText();
        theTape();
        faults();
        texts();
        aFaultLeavesTheLaw();
        numbersOfLaws();
        names();
        ties();
        due.end();
    }

    private static void theTape() {
        OpenOrTake x = new OpenOrTake();
        due.is("feed(-1)", x.feed(-1), -1);
        due.is("feed(256)", x.feed(256), -1);
        due.is("feed(0)", x.feed(0), 1);
        due.is("feed(255)", x.feed(255), 2);
        due.is("count(3)", x.count(3), 2);
        due.is("a byte 0 is no text", x.law(), -100);
        due.is("the tape is empty", x.count(3), 0);
        for (int i = 1; i <= 120; i++) {
            due.is("byte " + i, x.feed(i % 2 == 1 ? 'w' : ';'), i);
        }
        due.is("full", x.feed('w'), -3);
        due.is("BAD ahead of FULL", x.feed(999), -1);
        due.is("ends too early at its end", x.law(), -220);
        for (int i = 1; i <= 119; i++) {
            x.feed(i % 2 == 1 ? 'w' : ';');
        }
        due.is("sixty lines", x.law(), 1);
        due.is("the tape is empty", x.feed('w'), 1);
    }

    /** Without a text it is w: that with most worth, if that is more than the guess. */
    private static void withoutAText() {
        OpenOrTake x = Due.party(0, 0, 2, 0);
        Due.worths(x, new int[][] {{0}, {0}, {40, 50, 39, 60}});
        x.open();
        x.open();
        x.image();
        x.goOn();
        due.is("50 for a guess of 49", x.of(2, 11), 1);
        x.back();
        x.mend(22, 0, 40);
        x.goOn();
        due.is("50 for a guess of 50: opens", x.of(2, 11), 2);
        x.back();
        due.is("a fault is no text", Due.law(x, "o+"), -102);
        x.mend(21, 0, 51);
        x.goOn();
        due.is("51 for a guess of 50", x.of(2, 11), 1);
    }

    private static void faults() {
        OpenOrTake x = new OpenOrTake();
        fault(x, "", 0);
        fault(x, "q", 0);
        fault(x, "W", 0);
        fault(x, " w", 0);
        fault(x, "w ", 1);
        fault(x, "wx", 1);
        fault(x, "w;", 2);
        fault(x, "w;;", 2);
        fault(x, ";w", 0);
        fault(x, "w?", 2);
        fault(x, "w?x?t", 3);
        fault(x, "w?x;t?", 6);
        fault(x, "(w?x)", 2);
        fault(x, "(w;x)", 2);
        fault(x, "(w", 2);
        fault(x, "(w))", 3);
        fault(x, "w)", 1);
        fault(x, "()", 1);
        fault(x, "w<x<t", 3);
        fault(x, "w=x>t", 3);
        fault(x, "w<x&w<x<t", 7);
        fault(x, "w|", 2);
        fault(x, "w||x", 2);
        fault(x, "w&&x", 2);
        fault(x, "w+*x", 2);
        fault(x, "*w", 0);
        fault(x, "+w", 0);
        fault(x, "12345", 4);
        fault(x, "w+00001", 6);
        fault(x, "1w", 1);
        fault(x, "w1", 1);
        fault(x, "w-", 2);
        fault(x, "!", 1);
        fault(x, "-;", 1);
        fault(x, "!!!!!!!w", 6);
        fault(x, "-------w", 6);
        fault(x, "(!-(!-(w", 6);
        fault(x, "w--------x", 8);
        fault(x, "!(-(!(-w", 6);
        fault(x, "((((((w+!x", 8);
        fault(x, "((((((w+-x", 8);
        fault(x, "w\u00ff", 1);
    }

    private static void fault(OpenOrTake x, String text, int place) {
        due.is("law of " + text, Due.law(x, text), -100 - place);
    }

    private static void texts() {
        OpenOrTake x = new OpenOrTake();
        String[] texts = {
            "w", "x", "t", "l", "o", "r", "0", "9999", "0000", "w;x", "w?x", "w?x;t?l;o", "w<x?t>l;r=o?1",
            "!!!!!!w", "------w", "((((((w))))))", "(w<x)<(t<l)", "!w<!x", "w--x", "w-------x", "w-(-x)",
            "!w+!x*!(w)", "((((((w+x))))))", "(((((!w)))))+(((((!x)))))", "w|x&t<l+o*r/1%2-3", "-w*-x", "w<-x",
            "w|x|t&l&o", "w+x-t+l", "w*x/t%l"
        };
        for (String text : texts) {
            due.is("law of " + text, Due.law(x, text), 1);
        }
    }

    private static void aFaultLeavesTheLaw() {
        OpenOrTake x = Due.party(2, 2);
        Due.law(x, "o=0");
        due.is("one takes by the law", x.evening(0, 3), 1);
        due.is("a fault", Due.law(x, "o="), -102);
        due.is("still by the law", x.evening(0, 3), 1);
        due.is("another law", Due.law(x, "o"), 1);
        due.is("all open", x.evening(0, 3), 0);
        due.is("a third law", Due.law(x, "1-o"), 1);
        due.is("one takes", x.evening(0, 3), 1);
    }

    /** Person 1 takes the parcel of worth 50 just if the number is above that of opening (o ? 0). */
    private static void numbersOfLaws() {
        law("2+3*4=14", true);
        law("(2+3)*4=20", true);
        law("10-3-2=5", true);
        law("100/10/5=2", true);
        law("7%4*2=6", true);
        law("-7/2=-3", true);
        law("-7%4=-3", true);
        law("7/-2=-3", true);
        law("5/0=0", true);
        law("5%0=0", true);
        law("5/0", false);
        law("1|0", true);
        law("7|0=1", true);
        law("(7|0)=1", true);
        law("(7&9)=1", true);
        law("(7&0)=0", true);
        law("0|0", false);
        law("5&0", false);
        law("0|5&0", false);
        law("5|5&0", true);
        law("!0=1", true);
        law("!7=0", true);
        law("!!7=1", true);
        law("--7=7", true);
        law("3<3", false);
        law("2<3", true);
        law("3>3", false);
        law("4>3", true);
        law("3=3", true);
        law("(3=4)=0", true);
        law("9999*9999*9999>0", 9999 * 9999 * 9999 > 0);
        law("9999*9999*9999<0", 9999 * 9999 * 9999 < 0);
        law("(-2147*9999*100-5048/1)/-1", (-2147 * 9999 * 100 - 5048) / -1 > 0);
        law("((0-8192*8192*32)=(0-8192*8192*32)/-1)", true);
        law("(0-8192*8192*32)%-1", false);
        law("0?5;0?6;7", true);
        law("0?5;0", false);
        law("0?5", false);
        law("1?0;5", false);
        law("1?5;0", true);
        law("0?1;2?3;0-5", true);
        law("0;5", false);
        law("5;0", true);
        law("2-3?4;0", true);
        law("!0&!0", true);
        law("-1<0", true);
        law("1-1", false);
        law("w=50", true);
        law("x=7", true);
        law("t=0", true);
        law("l=3", true);
        law("o=0", true);
        law("r=1", true);
    }

    private static void law(String text, boolean takes) {
        OpenOrTake x = Due.party(0, 2);
        Due.worths(x, new int[][] {{7, 0}, {50, 0}});
        x.mend(10, 1, 3);
        due.is("law o?0;" + text, Due.law(x, "o?0;" + text), 1);
        x.open();
        x.mend(0, 3, 1);
        x.goOn();
        due.is("takes by " + text, x.of(0, 11), takes ? 1 : 0);
    }

    /** Of opening: w GUESS, x 0, t 0, l 0, o 1, r WRAPPED. */
    private static void names() {
        opening("w=15", true);
        opening("w=14", false);
        opening("x=0", true);
        opening("t=0", true);
        opening("l=0", true);
        opening("o=1", true);
        opening("r=2", true);
    }

    private static void opening(String text, boolean opens) {
        OpenOrTake x = Due.party(0, 2, 0);
        Due.worths(x, new int[][] {{7, 0, 0}, {50, 10, 21}});
        Due.law(x, "o?2*(" + text + ");1");
        x.open();
        x.mend(0, 3, 1);
        x.goOn();
        due.is("opening by " + text, x.of(0, 12), opens ? 0 : 1);
    }

    private static void ties() {
        OpenOrTake x = Due.party(0, 0, 2, 0);
        x.open();
        x.open();
        Due.law(x, "5");
        x.image();
        x.goOn();
        due.is("of like ones opening", x.of(2, 11), 2);
        x.back();
        Due.law(x, "o?4;5");
        x.mend(0, 3, 1);
        x.goOn();
        due.is("of like ones the least parcel", x.of(2, 11), 0);
        x.back();
        Due.law(x, "w");
        x.mend(21, 0, 9);
        x.goOn();
        due.is("the greatest", x.of(2, 11), 1);
    }
}
