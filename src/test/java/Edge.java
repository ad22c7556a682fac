import java.io.IOException;
import java.nio.charset.StandardCharsets;
import java.nio.file.Files;
import java.nio.file.Paths;
import java.util.TreeSet;

/**
 * What the tests of boundaries share. Each of their tests stands behind the sentence of the document that it
 * holds the class to: says() and term() look the sentence up, so that no test outlives the words it is of, and
 * settle() asks that every promise of a range has one.
 */
class Edge extends Due {
    static final int LEAST = Integer.MIN_VALUE;
    static final int MOST = Integer.MAX_VALUE;
    static final int[] ROWS = {0, 0, 0, 0, 24, 120, 720, 5040, 40320};
    /** One method of each of four, with all calls, so that the last method is 3. */
    static final String FOUR = "stage 4;method a x 14 x 14 back 12 bob 14 single 1234;method b x;method c 14 12;"
            + "method d 12 bob 34;";

    interface ByInt { long of(int n); }
    interface OfDesk { long of(RingChamber x, int n); }

    private static final String DOC = flat(document());
    private static final String TERMS = DOC.substring(DOC.indexOf("## What it is"), DOC.indexOf("## Promise 1:"));
    private static final TreeSet<Integer> told = new TreeSet<>();
    private static String sentence = "";
    private static int askedAhead = 0;

    private static String document() {
        try {
            return new String(Files.readAllBytes(Paths.get(System.getProperty("doc", "../shared/DOC.md"))), StandardCharsets.UTF_8);
        } catch (IOException e) {
            throw new IllegalStateException("no document", e);
        }
    }

    private static String flat(String text) { return text.replaceAll("\\s+", " "); }

    private static String words(int n) {
        int from = DOC.indexOf("## Promise " + n + ":");
        int to = DOC.indexOf("## ", from + 3);
        return from < 0 ? "" : DOC.substring(from, to < 0 ? DOC.length() : to);
    }

    private static void begin(int n, String words, String where) {
        endSentence();
        promise = n;
        sentence = words;
        if (!where.contains(flat(words))) due("the document says so: " + words, 0, 1);
        askedAhead = asked;
    }

    private static void endSentence() {
        if (!sentence.isEmpty() && asked == askedAhead) due("nothing was asked of: " + sentence, 0, 1);
    }

    /** A sentence of promise n. */
    static void says(int n, String words) {
        begin(n, words, words(n));
        told.add(n);
    }

    /** A sentence of the terms, which stand ahead of all promises. */
    static void term(String words) { begin(0, words, TERMS); }

    static void settle(String test, int first, int last) {
        endSentence();
        for (int n = first; n <= last; n++) if (!told.contains(n)) due("promise " + n + " has a test of a boundary", 0, 1);
        settle(test);
    }

    // ---- texts

    static void bookTaken(String text, int methods) {
        RingChamber x = new RingChamber();
        fine(x, "book " + text, Texts.book(x, text), methods);
        due("fault of " + text, x.fault(0), 0);
        due("its place in " + text, x.fault(1), NONE);
    }

    static void bookFault(String text, int kind, int place) {
        RingChamber x = new RingChamber();
        refused(x, "book " + text, Texts.book(x, text), 9);
        due("fault of " + text, x.fault(0), kind);
        due("its place in " + text, x.fault(1), place);
    }

    static void touchTaken(String text, int steps) {
        RingChamber x = with(FOUR);
        fine(x, "touch " + text, Texts.touch(x, text), steps);
        due("fault of " + text, x.fault(0), 0);
        due("its place in " + text, x.fault(1), NONE);
    }

    static void touchFault(String text, int kind, int place) {
        RingChamber x = with(FOUR);
        refused(x, "touch " + text, Texts.touch(x, text), 9);
        due("fault of " + text, x.fault(0), kind);
        due("its place in " + text, x.fault(1), place);
    }

    // ---- arguments: those that can be, and those that are just too small and too large

    /** All of least .. most can be; what is beside them, and far from them, is STATUS 1. */
    static void range(RingChamber x, String what, int least, int most, ByInt call) {
        can(x, what, least, call);
        can(x, what, most, call);
        for (int n : new int[] {least - 1, most + 1, LEAST, MOST}) refused(x, what + " " + n, call.of(n), 1);
    }

    static void can(RingChamber x, String what, int n, ByInt call) {
        call.of(n);
        due(what + " " + n + " can be", x.status() != 1, true);
    }

    /** The last ROW of each STAGE can be, one more can't. */
    static void rows(String what, OfDesk call) {
        for (int stage = 4; stage <= 8; stage++) {
            RingChamber x = with("stage " + stage + ";method a " + stays(stage) + ";");
            range(x, what + " at stage " + stage + ", row", 0, ROWS[stage] - 1, n -> call.of(x, n));
        }
    }

    /** BELLS, places and lengths: 1 to STAGE, of an object with something RUNG. */
    static void bells(String what, OfDesk call) {
        for (int stage = 4; stage <= 8; stage++) {
            RingChamber x = rung("stage " + stage + ";method a " + stays(stage) + ";", "plain a;");
            range(x, what + " at stage " + stage, 1, stage, n -> call.of(x, n));
        }
    }

    static void methods(String what, OfDesk call) {
        RingChamber none = new RingChamber();
        refused(none, what + " of no method", call.of(none, 0), 1);
        RingChamber one = with("stage 5;method a 1;");
        range(one, what + " of one method", 0, 0, n -> call.of(one, n));
        RingChamber four = with(FOUR);
        range(four, what + " of four methods", 0, 3, n -> call.of(four, n));
    }

    static void calls(String what, OfDesk call) {
        RingChamber x = with(FOUR);
        fine(x, what + " with a single can be", Math.min(call.of(x, 2), 0), 0);
        range(x, what + " with call", 0, 2, n -> call.of(x, n));
    }

    /** All places of a STAGE. */
    static String stays(int stage) { return "12345678".substring(0, stage); }
}
