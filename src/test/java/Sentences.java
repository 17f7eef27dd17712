import java.io.IOException;
import java.nio.file.Files;
import java.nio.file.Path;
import java.util.regex.Matcher;
import java.util.regex.Pattern;

/**
 * The document's sentences, and what tests say of them: each test names its promise and the words that it holds.
 * Words that do not stand in the document are wrong, a test that asks nothing is, and so are at the end all words of
 * the promises and of the Terms that no test has named.
 */
final class Sentences {
    private static final int PROMISES = 37;
    /** Of one test; what is wrong more often is counted alone. */
    private static final int MOST_TOLD = 9;
    /** What tells what follows, and promises nothing by itself. */
    private static final String[] HEADS = {
        "## Terms", "======== [1-4]", "======== SO THAT NOTHING IS READ TWO WAYS\\.",
        "Ahead of the calls [`a-zA-Z, ]* the interface says: ---- [a-z, ]*"
    };

    /** By promises; at 0 all that stands ahead of the first one. */
    private final String[] text = new String[PROMISES + 1];
    private final boolean[][] named = new boolean[PROMISES + 1][];
    private final int[] tests = new int[PROMISES + 1];
    /** Without the document the words can't be held against it, the answers can. */
    private final boolean isThere;
    private String now = "";
    private int askedNow = 1;
    private int wrongNow = 0;
    private int asked = 0;
    private int wrong = 0;

    Sentences(Path document) throws IOException {
        isThere = Files.isReadable(document);
        String all = (isThere ? Files.readString(document) : "").replaceAll("(?m)^```.*$", "").replaceAll("\\s+", " ");
        String[] parts = all.split("## Promise \\d+: [^`]*|## Not promised");
        for (int promise = 0; promise <= PROMISES; promise++) {
            text[promise] = promise < parts.length ? parts[promise] : "";
            named[promise] = new boolean[text[promise].length()];
        }
        Matcher signature = Pattern.compile("`[^`]*`: ").matcher("");
        for (int promise = 1; promise <= PROMISES; promise++) {
            if (signature.reset(text[promise]).find()) {
                mark(promise, signature.start(), signature.end());
            }
        }
        int terms = Math.max(text[0].indexOf("## Terms"), 0);
        mark(0, 0, terms);
        for (String head : HEADS) {
            Matcher found = Pattern.compile(head).matcher(text[0]);
            while (found.find()) {
                mark(0, found.start(), found.end());
            }
        }
    }

    private void mark(int promise, int from, int to) {
        for (int i = from; i < to; i++) {
            named[promise][i] = true;
        }
    }

    /** What is asked from here on holds these words, of the promise itself or of the Terms that it uses. */
    void of(int promise, String words) {
        endOfTest();
        now = "promise " + promise + ", \"" + words + "\"";
        askedNow = 0;
        wrongNow = 0;
        tests[promise]++;
        if (isThere && !(nameIn(promise, words) | nameIn(0, words))) {
            fault("the document does not say so");
        }
    }

    private boolean nameIn(int promise, String words) {
        int at = text[promise].indexOf(words);
        boolean found = at >= 0;
        while (at >= 0) {
            mark(promise, at, at + words.length());
            at = text[promise].indexOf(words, at + 1);
        }
        return found;
    }

    void is(String what, long got, long want) {
        asked++;
        askedNow++;
        if (got != want) {
            fault(what + " answered " + got + ", due is " + want);
        }
    }

    private void fault(String what) {
        wrong++;
        wrongNow++;
        if (wrongNow <= MOST_TOLD) {
            System.out.println(now + ": " + what);
        }
    }

    private void endOfTest() {
        if (askedNow == 0) {
            fault("nothing was asked");
        }
    }

    void end() {
        endOfTest();
        int count = 0;
        for (int promise = 0; promise <= PROMISES; promise++) {
            now = promise == 0 ? "the Terms" : "promise " + promise;
            wrongNow = 0;
            count += tests[promise];
            if (promise > 0 && tests[promise] == 0) {
                fault("there is no test");
            }
            String left = left(promise);
            if (!left.isBlank()) {
                fault("no test names: " + left);
            }
        }
        if (!isThere) {
            System.out.println("EdgesTest: no document was found, so the tests' words were held against nothing");
        }
        System.out.println("EdgesTest: " + count + " tests of sentences, " + asked + " answers, " + wrong
                + " not as due");
        if (wrong != 0) {
            System.exit(1);
        }
    }

    /** What has letters or digits and was not named. */
    private String left(int promise) {
        StringBuilder left = new StringBuilder();
        StringBuilder piece = new StringBuilder();
        for (int i = 0; i <= text[promise].length(); i++) {
            if (i < text[promise].length() && !named[promise][i]) {
                piece.append(text[promise].charAt(i));
            } else {
                left.append(piece.chars().anyMatch(Character::isLetterOrDigit) ? piece + " / " : "");
                piece.setLength(0);
            }
        }
        return left.toString();
    }
}
