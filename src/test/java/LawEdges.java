/** The edges of promises 7 and 8, and of the way that goes by THE LAW. */
final class LawEdges extends Edges {
    LawEdges(Sentences sentences) {
        super(sentences);
    }

    @Override
    void hold() {
        feeding();
        laws();
        lengths();
        lines();
        operators();
        operands();
        names();
        open();
        ints();
        whichLineCounts();
        faults();
        withoutAText();
        byTheLaw();
    }

    private static OpenOrTake fed(String text) {
        OpenOrTake x = people(2);
        for (char letter : text.toCharArray()) {
            x.feed(letter);
        }
        return x;
    }

    private void feeding() {
        of(7, "A byte (0 .. 255) comes to THE TAPE: how many it has.");
        OpenOrTake x = new OpenOrTake();
        is("byte 0", x.feed(0), 1);
        is("byte 255", x.feed(255), 2);
        is("they are counted", x.count(3), 2);
        is("byte 0 is none of a text", fed("w\u0000").law(), -101);
        is("byte 255 is none of a text", fed("w\u00ff").law(), -101);
        is("w and 128 is not w", fed("\u00f7").law(), -100);

        of(7, "BAD");
        for (int letter : new int[] {-1, 256, MIN, MAX}) {
            refused("feed(" + letter + ")", BAD, Edges::lived, y -> y.feed(letter));
        }
        is("BAD ahead of FULL", fed("w".repeat(120)).feed(256), BAD);

        of(7, "FULL (120)");
        is("the 120th byte", fed("w".repeat(119)).feed('w'), 120);
        refused("the 121st", FULL, () -> fed("w;".repeat(60)), y -> y.feed('w'));
        x = fed("w".repeat(120));
        x.law();
        is("it is empty again", x.feed('w'), 1);
    }

    private void laws() {
        of(8, "THE TAPE becomes THE LAW: 1");
        OpenOrTake x = Due.party(2, 2);
        is("the first", Due.law(x, "o=0"), 1);
        is("by it 1 takes", x.evening(0, 3), 1);
        is("another one", Due.law(x, "o"), 1);
        is("by it 1 opens", x.evening(0, 3), 0);
        is("a longer one", Due.law(x, "o?1;1+1+1+1+1"), 1);
        is("by it 1 takes", x.evening(0, 3), 1);

        of(8, "-100 less its FAULT");
        is("FAULT 0", Due.law(x, "q"), -100);
        is("FAULT 1", Due.law(x, "o)"), -101);
        is("FAULT 119", Due.law(x, "w;".repeat(59) + "w)"), -219);
        is("FAULT 120", Due.law(x, "w;".repeat(60)), -220);
        is("the law stays", x.evening(0, 3), 1);

        of(8, "THE TAPE is empty then.");
        is("behind a FAULT", Due.law(x, "o="), -102);
        is("bytes", x.count(3), 0);
        is("the next is the first", x.feed('o'), 1);
        is("a law", x.law(), 1);
        is("bytes", x.count(3), 0);
        is("an empty tape is no TEXT", x.law(), -100);
        is("the law stays", x.evening(0, 3), 0);
    }

    private void lengths() {
        of(8, "THE LAW is a TEXT by THE TAPE (at most 120 bytes)");
        String ahead = "0?9;".repeat(29);
        is("the last of 120 bytes counts", takes(ahead + "11-o"), 1);
        is("and so it does here", takes(ahead + "10*o"), 0);
        is("each of 120 bytes counts", takes("-o" + "+1".repeat(59)), 1);
        is("and so it does here", takes("!o" + "-1".repeat(59)), 1);
        is("one byte", takes("w"), 1);
        of(8, "LINES, one or more, parted by ;");
        is("one line", takes("o=0"), 1);
        is("sixty lines", takes("w;".repeat(59) + "w"), 1);
        faultOf("", 0);
        faultOf(";w", 0);
        faultOf("w;", 2);
        faultOf("w;;w", 2);
    }

    /** By the law person 1 takes parcel 0 (50 for it, 7 for who has it, a LIKE of 3) or opens (GUESS 20). */
    private int takes(String text) {
        OpenOrTake x = Due.party(0, 2);
        Due.worths(x, new int[][] {{7, 0}, {50, 20}});
        x.mend(10, 1, 3);
        is("law " + text, Due.law(x, text), 1);
        return x.evening(0, 3);
    }

    /** The number of taking is v: it is more than v - 1 for opening, and not more than v. */
    private void value(String text, int v) {
        is(text + " > " + (v - 1), takes("o?" + spelled(v - 1) + ";" + text), 1);
        is(text + " > " + v, takes("o?" + spelled(v) + ";" + text), 0);
    }

    private static String spelled(int v) {
        if (v == MIN) {
            return spelled(MIN + 1) + "-1";
        }
        if (v < 0) {
            return "0-(" + spelled(-v) + ")";
        }
        return v <= 9999 ? "" + v : "(" + spelled(v / 1000) + ")*1000+" + v % 1000;
    }

    private void lines() {
        of(8, "LINE: E, or E ? E (what counts if the first is not 0).");
        value("5", 5);
        value("1?5;9", 5);
        value("0-1?5;9", 5);
        value("0?5;9", 9);
        faultOf("w?", 2);
        faultOf("?w", 0);
        faultOf("w?x?t", 3);
        faultOf("(w?x)", 2);
    }

    private void operators() {
        of(8, "E = A { | A }.");
        value("0|0", 0);
        value("0|0|3", 1);
        value("1&0|1", 1);
        faultOf("w|", 2);
        faultOf("w||x", 2);
        of(8, "A = B { & B }.");
        value("1&2&0", 0);
        value("1&2&3", 1);
        value("1|1&0", 1);
        value("1=1&2=2", 1);
        faultOf("w&", 2);
        faultOf("&w", 0);
        of(8, "B = S, or S < S, S = S, S > S.");
        value("1+1=2", 1);
        value("1<2+0", 1);
        value("2>1*2", 0);
        faultOf("1<2<3", 3);
        faultOf("1=2>3", 3);
        faultOf("1>2=3", 3);
        faultOf("1<", 2);
        value("(1<2)<3", 1);
        of(8, "S = P { + P, - P }.");
        value("9-3-2", 4);
        value("9-3+2", 8);
        value("9-2*3", 3);
        faultOf("9-", 2);
        faultOf("+9", 0);
        of(8, "P = O { * O, / O, % O }.");
        value("100/10/5", 2);
        value("100/10*5", 50);
        value("17%10*2", 14);
        value("2*-3", -6);
        faultOf("9*", 2);
        faultOf("/9", 0);
        faultOf("9%*9", 2);
    }

    private void operands() {
        of(8, "O = a number (1 to 4 digits), a NAME, ! O, - O, ( E ).");
        value("7", 7);
        value("9999", 9999);
        value("0009", 9);
        faultOf("12345", 4);
        faultOf("00001", 4);
        faultOf("w+12345", 6);
        value("w", 50);
        faultOf("wx", 1);
        faultOf("1w", 1);
        faultOf("w1", 1);
        faultOf("q", 0);
        faultOf("W", 0);
        value("!7", 0);
        value("!0+1", 2);
        value("1+!0", 2);
        value("9-3*!0", 6);
        value("!(1-!0)", 1);
        faultOf("!", 1);
        value("-7", -7);
        value("--7", 7);
        value("-7+9", 2);
        faultOf("-", 1);
        value("(1|1)+(2<1)", 1);
        faultOf("()", 1);
        faultOf("(w", 2);
        faultOf("(w))", 3);
        faultOf(")", 0);
        of(8, "No blanks.");
        faultOf(" w", 0);
        faultOf("w ", 1);
        faultOf("w +x", 1);
        faultOf("w+ x", 2);
        faultOf("w;\nx", 2);
    }

    private void names() {
        of(8, "NAMES: w WORTH (of OPENING GUESS)");
        value("w", 50);
        opening("w", 20);
        of(8, "x WORTH for who has it (of OPENING 0)");
        value("x", 7);
        opening("x", 0);
        of(8, "t how often it was TAKEN");
        value("t", 0);
        opening("t", 0);
        is("taken once, more than 0", takesWhatWasTaken("o?0;t"), 0);
        is("taken once, not more than 1", takesWhatWasTaken("o?1;t"), 2);
        of(8, "l LIKE for who has it (of OPENING 0)");
        value("l", 3);
        opening("l", 0);
        of(8, "o 1 for OPENING");
        value("o", 0);
        opening("o", 1);
        of(8, "r how many are WRAPPED");
        value("r", 1);
        opening("r", 1);
        is("two of three", wrapped(3, 2), 1);
        is("six of seven", wrapped(7, 6), 1);
        is("not five of seven", wrapped(7, 5), 0);
    }

    /** The number of opening is v: v + 1 for taking is more, v is not. */
    private void opening(String text, int v) {
        is(text + " of opening < " + (v + 1), takes("o?" + text + ";" + spelled(v + 1)), 1);
        is(text + " of opening < " + v, takes("o?" + text + ";" + spelled(v)), 0);
    }

    /** With which parcel person 2 goes home: 0 was taken once, 1 never, and it opens 2. */
    private int takesWhatWasTaken(String text) {
        OpenOrTake x = Due.party(0, 0, 2);
        x.open();
        x.take(0);
        x.open();
        is("law " + text, Due.law(x, text), 1);
        x.goOn();
        return x.of(2, 11);
    }

    /** Whether person 1 of n, who goes by the law, sees so many wrapped ones. */
    private int wrapped(int n, int many) {
        OpenOrTake x = people(n);
        x.mend(1, 2, 2);
        is("law", Due.law(x, "o?r=" + many + ";1"), 1);
        return 1 - x.evening(0, 3);
    }

    private void open() {
        of(8, "At most 6 of ( ! - ahead of an O are open at once.");
        for (String sign : new String[] {"(", "!", "-"}) {
            String closing = sign.equals("(") ? ")".repeat(6) : "";
            is("six of " + sign, Due.law(people(2), sign.repeat(6) + "w" + closing), 1);
            faultOf(sign.repeat(7) + "w" + closing, 6);
            is("six, and six", Due.law(people(2), sign.repeat(6) + "w" + closing + "+" + sign.repeat(6) + "x"
                    + closing), 1);
        }
        is("some of each", Due.law(people(2), "(!-(!-w))"), 1);
        faultOf("(!-(!-(w)))", 6);
        faultOf("(!-(!-!w))", 6);
        faultOf("(!-(!--w))", 6);
        is("what stands behind an O is not open", Due.law(people(2), "((((((w-x))))))"), 1);
        is("a - between and six", Due.law(people(2), "w-------x"), 1);
        faultOf("w--------x", 8);
        is("those of an O ahead are closed", Due.law(people(2), "(((((!w+!x)))))"), 1);
        faultOf("((((((w+!x))))))", 8);
        faultOf("((((((w|(x)))))))", 8);
        is("six in every line", Due.law(people(2), "!!!!!!w?------x;((((((t))))))"), 1);
    }

    private void ints() {
        of(8, "Ints that wrap;");
        value("9999*9999*9999+0", (int) (9999L * 9999L * 9999L));
        value(spelled(MAX) + "+2", MIN + 1);
        value("0-(" + spelled(MAX) + ")-2", MAX);
        value("-(" + spelled(MIN) + ")+1", MIN + 1);
        value("8192*8192*64", 0);
        of(8, "/ and % toward 0,");
        value("-7/2", -3);
        value("7/-2", -3);
        value("-7/-2", 3);
        value("-7%4", -3);
        value("7%-4", 3);
        value("-1/2", 0);
        of(8, "/ and % toward 0, by 0 they give 0;");
        value("7/0", 0);
        value("7%0", 0);
        value("0/0", 0);
        value("-7/0+5", 5);
        value("-7%0+5", 5);
        value("7%(w-50)", 0);
        value("(" + spelled(MIN) + ")/-1+1", MIN + 1);
        value("(" + spelled(MIN) + ")%-1", 0);
        of(8, "| & < = > ! give 1, 0;");
        value("7|0", 1);
        value("0|-7", 1);
        value("0|0", 0);
        value("7&9", 1);
        value("4&3", 1);
        value("7&0", 0);
        value("0&7", 0);
        value("2<3", 1);
        value("3<3", 0);
        value("-4<-3", 1);
        value("3=3", 1);
        value("3=4", 0);
        value("4>3", 1);
        value("3>3", 0);
        value("(" + spelled(MIN) + ")<1", 1);
        value("(" + spelled(MIN) + ")>1", 0);
        value("(" + spelled(MAX) + ")>-1", 1);
        value("(" + spelled(MAX) + ")<-1", 0);
        value("!0", 1);
        value("!7", 0);
        value("!-1", 0);
        of(8, "all is worked out.");
        value("1|1/0", 1);
        value("0&1/0|5%0", 0);
        value("0?1/0;4", 4);
    }

    private void whichLineCounts() {
        of(8, "The first LINE without a first E, or whose first E is not 0, counts;");
        value("5;6", 5);
        value("0;6", 0);
        value("0?5;6;7", 6);
        value("1?5;6", 5);
        value("0?5;0?6;2?7;8", 7);
        value("-1?5;6", 5);
        value("1?0;6", 0);
        of(8, "none: 0.");
        value("0?5", 0);
        value("0?5;0?6;3-3?7", 0);
    }

    private void faultOf(String text, int place) {
        is("law of " + text, Due.law(people(2), text), -100 - place);
    }

    private void faults() {
        of(8, "FAULT: the place (from 0) of the first byte with which no TEXT goes on;");
        faultOf("*w", 0);
        faultOf("w+*x", 2);
        faultOf("w;x;*", 4);
        faultOf("w!x", 1);
        faultOf("w(x)", 1);
        faultOf("(w)x", 3);
        faultOf("(w;x)", 2);
        faultOf("!)", 1);
        faultOf("w;x?y", 4);
        faultOf("q)q", 0);
        faultOf("w<x?t<l<o", 7);
        faultOf("w;".repeat(59) + "w)", 119);
        of(8, "the length, if it ends too early.");
        faultOf("", 0);
        faultOf("(", 1);
        faultOf("((w)", 4);
        faultOf("w+", 2);
        faultOf("w;x?", 4);
        faultOf("w<", 2);
        faultOf("!!!!!!", 6);
        faultOf("w;".repeat(60), 120);
        faultOf("w+".repeat(60), 120);
    }

    private void withoutAText() {
        of(8, "Without a text w.");
        OpenOrTake x = Due.party(0, 2);
        Due.worths(x, new int[][] {{99, 99}, {21, 20}});
        is("more than GUESS is taken", x.evening(0, 3), 1);
        x.mend(10, 0, 20);
        is("as much as GUESS is not", x.evening(0, 3), 0);
        is("a FAULT is no text", Due.law(x, "o=0)"), -103);
        is("as before", x.evening(0, 3), 0);
    }

    private void byTheLaw() {
        of(12, "2 by THE LAW: of OPENING and all it may TAKE that with the greatest number");
        is("opening", chosen("o?6;w", 5, 5), 2);
        is("parcel 0", chosen("o?4;w", 6, 5), 0);
        is("parcel 1", chosen("o?4;w", 5, 6), 1);
        is("below 0 too", chosen("o?-9;-w", 8, 7), 1);
        is("the greatest of all ints", chosen("o?" + spelled(MIN) + ";" + spelled(MAX), 5, 5), 0);
        is("the least of all ints", chosen("o?" + spelled(MAX) + ";" + spelled(MIN), 5, 5), 2);
        is("of all it may", chosenOfSafe(), 1);
        of(12, "(of like ones OPENING, then the least PARCEL)");
        is("opening", chosen("5", 5, 5), 2);
        is("opening, of like ones below 0", chosen("-1", 5, 5), 2);
        is("opening, of three zeros", chosen("w", 0, 0), 2);
        is("the least parcel", chosen("o?4;5", 5, 5), 0);
        is("the least parcel, of like ones below 0", chosen("o?-4;-3", 5, 5), 0);
    }

    /** With which parcel person 2 goes home, by worths of 0 and 1 that lie open; it opens 2. */
    private int chosen(String text, int worth0, int worth1) {
        OpenOrTake x = Due.party(0, 0, 2);
        x.mend(20, 0, worth0);
        x.mend(21, 0, worth1);
        is("law " + text, Due.law(x, text), 1);
        is("turns", x.goOn() >= 3 ? 1 : 0, 1);
        return x.of(2, 11);
    }

    /** Parcel 0 is SAFE, so person 2 takes 1 by a law for which 0 would be greater. */
    private int chosenOfSafe() {
        OpenOrTake x = Due.party(0, 0, 2);
        x.mend(0, 3, 1);
        x.mend(20, 0, 90);
        x.mend(21, 0, 80);
        x.open();
        x.take(0);
        x.open();
        is("law", Due.law(x, "o?1;w"), 1);
        x.goOn();
        return x.of(2, 11);
    }
}
