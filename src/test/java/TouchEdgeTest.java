import java.util.HashSet;

/** Each sentence about TOUCHES, searches and MARKS that names a boundary, by itself; promises 36 to 60 and their terms. */
public final class TouchEdgeTest extends Edge {
    /** n: nothing moves; a: x; b: 14; c: 12. BELLS 1 and 3 are rung. */
    private static final String SMALL = "stage 4;method n 1234;method a x;method b 14;method c 12;ringer o 1;ringer p 3;";
    private static final String NOBODY = "stage 4;method n 1234;method a x;method b 14;";
    private static final String ALL_RING = NOBODY + "ringer o 1;ringer p 2;ringer q 3;ringer r 4;";

    /** A call that asks of what is RUNG, in all states in which nothing is. */
    private static void nothing(String what, OfDesk call) {
        RingChamber x = new RingChamber();
        refused(x, what + " of a new object", call.of(x, 0), 6);
        x = with(SMALL);
        refused(x, what + " without a TOUCH", call.of(x, 0), 6);
        x.mark();
        Texts.touch(x, "plain a;");
        refused(x, what + " with a TOUCH that is not RUNG", call.of(x, 0), 6);
        x.strayed(0, 0);
        refused(x, what + " behind strayed()", call.of(x, 0), 6);
        x.ring();
        x.back();
        refused(x, what + " taken back", call.of(x, 0), 6);
        Texts.touch(x, "plain a;");
        x.ring();
        Texts.touch(x, "plain a;");
        refused(x, what + " with a new TOUCH", call.of(x, 0), 6);
        x.ring();
        Texts.book(x, SMALL);
        refused(x, what + " with a new BOOK", call.of(x, 0), 6);
    }

    private static void ring() {
        says(36, "The TOUCH is RUNG: how many CHANGES (6: there is none).");
        RingChamber x = new RingChamber();
        refused(x, "none at first", x.ring(), 6);
        x = with(SMALL);
        refused(x, "none with a BOOK alone", x.ring(), 6);
        refused(x, "nothing is RUNG then", x.rowAt(0), 6);
        x.mark();
        fine(x, "a TOUCH of no STEPS", x.touch(0), 0);
        fine(x, "no CHANGES", x.ring(), 0);
        fine(x, "one", Texts.touch(x, "plain a;"), 1);
        fine(x, "one", x.ring(), 1);
        fine(x, "again", x.ring(), 1);
        x.back();
        refused(x, "none, taken back", x.ring(), 6);
        x = rung("stage 4;method e" + times(" x", 32) + ";", "loop 99;plain e;end;");
        fine(x, "2,000", x.ring(), 2000);
        fine(x, "told", x.told(5), 2000);
    }

    private static void rowAt() {
        term("RUNG: ROW 0 is ROUNDS, ROW k the one behind the k-th CHANGE of the TOUCH.");
        RingChamber x = rung(SMALL, "plain a;plain b;");
        int[] rows = {0, 7, 10};
        for (int k = 0; k < 3; k++) fine(x, "ROW " + k, x.rowAt(k), rows[k]);

        says(37, "ROW k of what is RUNG (1: k below 0, above its CHANGES; 6: nothing).");
        nothing("rowAt", (y, n) -> y.rowAt(n));
        nothing("rowAt, far above", (y, n) -> y.rowAt(MOST));
        RingChamber none = new RingChamber();
        refused(none, "below 0, though nothing is RUNG", none.rowAt(-1), 1);
        refused(none, "far below 0, though nothing is RUNG", none.rowAt(LEAST), 1);
        range(x, "rowAt", 0, 2, k -> x.rowAt(k));
        RingChamber empty = rung(SMALL, "");
        fine(empty, "ROW 0", empty.rowAt(0), 0);
        range(empty, "rowAt of no CHANGES", 0, 0, k -> empty.rowAt(k));
        RingChamber full = rung("stage 4;method e" + times(" x", 32) + ";", "loop 99;plain e;end;");
        range(full, "rowAt of 2,000 CHANGES", 0, 2000, k -> full.rowAt(k));
        fine(full, "the last", full.rowAt(2000), 0);
        fine(full, "ahead of it", full.rowAt(1999), 7);
    }

    private static void truth() {
        term("It COMES ROUND at the first k above 0 with ROUNDS.");
        RingChamber x = rung(SMALL, "plain n;plain n;");
        fine(x, "k 1", x.round(), 1);

        says(38, "When it COMES ROUND (6: not, nothing RUNG).");
        nothing("round", (y, n) -> y.round());
        x = rung(SMALL, "");
        refused(x, "ROW 0 alone", x.round(), 6);
        x = rung(SMALL, "plain a;");
        refused(x, "not", x.round(), 6);
        x = rung(SMALL, "plain a;plain b;plain b;plain a;");
        fine(x, "the last", x.round(), 4);
        x = rung(SMALL, "plain a;plain a;plain a;plain a;");
        fine(x, "the first", x.round(), 2);

        term("It is TRUE if no two of its ROWS 1, 2 .. to the last are alike.");
        x = rung(SMALL, "plain a;plain a;");
        fine(x, "ROW 0 is none of them", x.isTrue(), 1);
        x = rung(SMALL, "plain n;plain n;");
        fine(x, "ROWS 1 and 2", x.isTrue(), 0);
        x = rung(SMALL, "plain a;plain b;plain b;");
        fine(x, "the first and the last", x.isTrue(), 0);

        says(39, "1 if it is TRUE, else 0 (6).");
        nothing("isTrue", (y, n) -> y.isTrue());
        x = rung(SMALL, "");
        fine(x, "no ROW", x.isTrue(), 1);
        x = rung(SMALL, "plain n;");
        fine(x, "one ROW", x.isTrue(), 1);
        String whole = "stage 4;method e" + times(" x 14 x 14 x 14 x 12", 3) + ";method n 1234;";
        x = rung(whole, "plain e;");
        fine(x, "all 24", x.isTrue(), 1);
        x = rung(whole, "plain e;plain n;");
        fine(x, "one more", x.isTrue(), 0);

        says(40, "The first two ROWS that are alike, by the second, what 0: the first, 1: the second (1; 6: it is TRUE, nothing RUNG).");
        nothing("falseAt 0", (y, n) -> y.falseAt(0));
        nothing("falseAt 1", (y, n) -> y.falseAt(1));
        fine(x, "the first", x.falseAt(0), 24);
        fine(x, "the second", x.falseAt(1), 25);
        for (int what : new int[] {-1, 2, LEAST, MOST}) {
            refused(x, "what " + what, x.falseAt(what), 1);
            RingChamber none = new RingChamber();
            refused(none, "what " + what + " ahead of nothing RUNG", none.falseAt(what), 1);
            RingChamber good = rung(SMALL, "plain a;");
            refused(good, "what " + what + " ahead of TRUE", good.falseAt(what), 1);
        }
        x = rung(SMALL, "plain a;");
        refused(x, "TRUE", x.falseAt(0), 6);
        refused(x, "TRUE", x.falseAt(1), 6);
        x = rung(SMALL, "");
        refused(x, "TRUE, without a ROW", x.falseAt(0), 6);
        x = rung(SMALL, "plain a;plain a;");
        refused(x, "ROW 0 is none of them", x.falseAt(1), 6);
        // 2143 2413 3142 2413 2143: 2 and 4 by the second, though 1 and 5 begin ahead of them
        x = rung("stage 4;method a x;method b 14;method z 14 x x 14;", "plain a;plain z;");
        fine(x, "by the second: the first", x.falseAt(0), 2);
        fine(x, "by the second: the second", x.falseAt(1), 4);
        x = rung(SMALL, "plain n;plain n;plain n;");
        fine(x, "of three alike", x.falseAt(0), 1);
        fine(x, "of three alike", x.falseAt(1), 2);

        says(41, "How many of its ROWS 1 .. are like an earlier one of these (6).");
        nothing("repeats", (y, n) -> y.repeats());
        fine(x, "of three alike, two", x.repeats(), 2);
        x = rung(SMALL, "");
        fine(x, "no ROW", x.repeats(), 0);
        x = rung(SMALL, "plain n;");
        fine(x, "ROW 0 is none of these", x.repeats(), 0);
        x = rung(SMALL, "plain a;plain b;plain a;");
        fine(x, "HEARD alike is not alike", x.repeats(), 0);
        x = rung(SMALL, "plain a;plain b;plain b;plain a;plain a;");
        fine(x, "the first and the last", x.repeats(), 2);
        x = rung(SMALL, "loop 99;plain n;end;loop 99;plain n;end;");
        fine(x, "all but the first", x.repeats(), 197);
    }

    private static void places() {
        says(42, "In which place a BELL is in ROW k (1; 6).");
        nothing("place", (y, n) -> y.place(1, n));
        nothing("place, far above", (y, n) -> y.place(4, MOST));
        bells("place, BELL", (y, n) -> y.place(n, 0));
        RingChamber x = rung(SMALL, "plain a;plain b;");
        range(x, "place, k", 0, 2, k -> x.place(1, k));
        RingChamber none = with(SMALL);
        refused(none, "no BELL ahead of nothing RUNG", none.place(0, 0), 1);
        refused(none, "no BELL ahead of nothing RUNG", none.place(5, 0), 1);
        refused(none, "k below 0 ahead of nothing RUNG", none.place(1, -1), 1);
        for (int b = 1; b <= 4; b++) fine(x, "ROW 0", x.place(b, 0), b);
        // 2413
        int[] last = {3, 1, 4, 2};
        for (int b = 1; b <= 4; b++) fine(x, "the last ROW", x.place(b, 2), last[b - 1]);

        says(43, "In how many of its ROWS 1 .. a BELL is in a place (1; 6).");
        nothing("blows", (y, n) -> y.blows(1, 4));
        bells("blows, BELL", (y, n) -> y.blows(n, 1));
        bells("blows, place", (y, n) -> y.blows(1, n));
        refused(none, "no BELL ahead of nothing RUNG", none.blows(5, 1), 1);
        refused(none, "no place ahead of nothing RUNG", none.blows(1, 0), 1);
        RingChamber empty = rung(SMALL, "");
        fine(empty, "ROW 0 is none of them", empty.blows(1, 1), 0);
        RingChamber still = rung("stage 8;method n 12345678;", "loop 99;plain n;end;");
        for (int b = 1; b <= 8; b++) fine(still, "all", still.blows(b, b), 99);
        fine(still, "none", still.blows(8, 7), 0);
    }

    private static void music() {
        says(44, "(1; 2; 3; 5: no BELL, not 0; 6; asked in this order)");
        RingChamber x = with(SMALL);
        for (int t : new int[] {-1, 4, LEAST, MOST}) refused(x, "TRAY " + t, x.music(t), 1);
        for (int t = 0; t < 4; t++) refused(x, "MISSING " + t, x.music(t), 2);
        x.tray(0, 2, 0);
        refused(x, "no numbers", x.music(0), 3);
        fill(x, 0, 2, 9, 9, 9);
        refused(x, "too few ahead of no BELL", x.music(0), 3);
        for (long v : new long[] {5, -1, Long.MIN_VALUE, Long.MAX_VALUE, 1L << 32, (1L << 32) + 1}) for (int p = 0; p < 4; p++) {
            x.tray(0, 3, 4);
            x.write(0, p, v);
            refused(x, v + " ahead of nothing RUNG", x.music(0), 5);
        }
        x.tray(0, 3, 4);
        RingChamber five = rung("stage 5;method a 1;", "plain a;");
        fill(five, 0, 0, 0, 0, 0, 0);
        refused(five, "as many as there are BELLS, not fewer", five.music(0), 3);
        fill(five, 0, 0, 0, 0, 0, 0, 4);
        fine(five, "just so many", five.music(0), 1);
        nothing("music", (y, n) -> {
            y.tray(0, 0, 4);
            return y.music(0);
        });

        term("MUSIC by a TRAY: how many ROWS 1 .. fit: STAGE numbers from its place 0 on: a BELL, or 0 for any.");
        x = rung(SMALL, "plain a;plain n;plain b;");
        fits(x, 3, 0, 0, 0, 0);
        fits(x, 2, 2, 1, 4, 3);
        fits(x, 0, 1, 2, 3, 4);

        says(44, "MUSIC by a TRAY");
        // 2143 2413
        x = rung(SMALL, "plain a;plain b;");
        fits(x, 2, 0, 0, 0, 0);
        fits(x, 2, 2, 0, 0, 0);
        fits(x, 1, 2, 4, 1, 3);
        fits(x, 1, 0, 0, 4, 0);
        fits(x, 0, 1, 0, 0, 0);
        fits(x, 0, 1, 2, 3, 4);
        fits(x, 0, 3, 3, 3, 3);
        fits(x, 2, 2, 0, 0, 3, 4, -7);
        x = rung(SMALL, "");
        fits(x, 0, 0, 0, 0, 0);
        fits(x, 0, 1, 2, 3, 4);
        x = rung(SMALL, "plain n;");
        fits(x, 1, 1, 2, 3, 4);
        x = rung("stage 8;method n 12345678;", "plain n;");
        fits(x, 1, 0, 0, 0, 0, 0, 0, 0, 8);
        fits(x, 0, 0, 0, 0, 0, 0, 0, 0, 7);
    }

    private static void fits(RingChamber x, int many, long... numbers) {
        for (int sort = 0; sort < 4; sort++) {
            fill(x, sort, sort, numbers);
            fine(x, "music in sort " + sort, x.music(sort), many);
        }
    }

    private static void runs() {
        says(45, "RUNS of n (3 to STAGE) (1; 6).");
        nothing("runs", (y, n) -> y.runs(3));
        RingChamber none = with(SMALL);
        for (int n : new int[] {2, 5, 0, -1, LEAST, MOST}) refused(none, n + " ahead of nothing RUNG", none.runs(n), 1);
        for (int stage = 4; stage <= 8; stage++) {
            RingChamber x = rung("stage " + stage + ";method a " + stays(stage) + ";", "plain a;");
            range(x, "runs at stage " + stage, 3, stage, n -> x.runs(n));
            for (int n = 3; n <= stage; n++) fine(x, "ROUNDS, of " + n, x.runs(n), stage - n + 1);
        }

        term("from which on n BELLS stand side by side, each one more than the one ahead, or each one less.");
        RingChamber x = rung(SMALL, "");
        fine(x, "ROW 0 is none of them", x.runs(3), 0);
        // 4321 is the fourth row of the hunt
        x = rung("stage 4;method h x 14 x 14;", "plain h;");
        fine(x, "all down", x.runs(4), 1);
        fine(x, "all down", x.runs(3), 2);
        x = rung("stage 4;method h 34 14;", "plain h;");
        // 2134 2314
        fine(x, "neither two up nor one by two", x.runs(3), 0);
        x = rung("stage 6;method a 3456;", "plain a;");
        // 213456
        int[] end = {0, 0, 0, 2, 1, 0, 0};
        for (int n = 3; n <= 6; n++) fine(x, "at the end, of " + n, x.runs(n), end[n]);
        x = rung("stage 6;method a 1236;", "plain a;");
        // 123546
        fine(x, "at the beginning", x.runs(3), 1);
        fine(x, "at the beginning", x.runs(4), 0);
        x = rung("stage 8;method h x 18 x 18 x 18 x 18;", "plain h;");
        fine(x, "eight down", x.runs(8), 1);
        x = rung("stage 4;method h 14 12 14;", "plain h;");
        // 1324 1342 1432
        fine(x, "down at the end", x.runs(3), 1);
    }

    private static void work() {
        term("DODGES of a BELL: how many times, in three ROWS one behind the other (ROW 0, too), it is in a place, in another one, and in the first one again.");
        RingChamber x = rung(SMALL, "plain a;plain a;");
        for (int b = 1; b <= 4; b++) fine(x, "from ROW 0 on", x.dodges(b), 1);
        x = rung(SMALL, "plain a;plain a;plain a;plain a;");
        fine(x, "each three", x.dodges(1), 3);
        x = rung(SMALL, "plain n;plain n;");
        fine(x, "not in another one", x.dodges(1), 0);
        x = rung(SMALL, "plain a;");
        fine(x, "two ROWS", x.dodges(1), 0);

        says(46, "DODGES of a BELL (1; 6: nothing RUNG).");
        nothing("dodges", (y, n) -> y.dodges(1));
        bells("dodges", (y, n) -> y.dodges(n));
        RingChamber none = with(SMALL);
        for (int b : new int[] {0, 5, -1, LEAST, MOST}) refused(none, b + " ahead of nothing RUNG", none.dodges(b), 1);
        x = rung(SMALL, "");
        fine(x, "one ROW", x.dodges(4), 0);

        term("LIES: how many times it is in one place in two ROWS one behind the other (ROW 0, too).");
        x = rung(SMALL, "plain b;");
        fine(x, "from ROW 0 on", x.lies(1), 1);
        fine(x, "from ROW 0 on", x.lies(4), 1);
        fine(x, "not", x.lies(2), 0);
        x = rung(SMALL, "plain n;plain n;plain a;");
        fine(x, "each two", x.lies(3), 2);

        says(47, "LIES of a BELL (1; 6).");
        nothing("lies", (y, n) -> y.lies(1));
        bells("lies", (y, n) -> y.lies(n));
        for (int b : new int[] {0, 5, -1, LEAST, MOST}) refused(none, b + " ahead of nothing RUNG", none.lies(b), 1);
        x = rung(SMALL, "");
        for (int b = 1; b <= 4; b++) fine(x, "one ROW", x.lies(b), 0);

        term("BACKWARD: the CHANGES RUNG, read from the last to the first, are the same.");
        backwardIs("plain a;plain n;plain a;", 1);
        backwardIs("plain n;plain a;plain n;plain a;", 0);

        says(48, "1 if it is BACKWARD the same, else 0 (6).");
        nothing("backward", (y, n) -> y.backward());
        backwardIs("", 1);
        backwardIs("plain a;", 1);
        backwardIs("plain a;plain a;", 1);
        backwardIs("plain a;plain b;", 0);
        backwardIs("plain a;plain b;plain a;", 1);
        backwardIs("plain a;plain b;plain b;plain a;", 1);
        backwardIs("plain a;plain b;plain c;plain a;", 0);
        backwardIs("plain a;plain b;plain c;plain n;plain b;plain a;", 0);
        backwardIs("loop 99;plain a;end;loop 99;plain a;end;plain b;", 0);
        backwardIs("plain b;loop 99;plain a;end;loop 99;plain a;end;plain b;", 1);
    }

    private static void backwardIs(String touch, int due) {
        RingChamber x = rung(SMALL, touch);
        fine(x, "backward of " + touch, x.backward(), due);
    }

    private static void heard() {
        term("HEARD in a ROW: its BELLS that are not SILENT, in order.");
        RingChamber two = rung("stage 4;method d 14 12 14;ringer a 4;ringer b 2;", "plain d;");
        // 1432
        fine(two, "4 is ahead of 2", two.heard(3, 0), 4);
        fine(two, "2 is behind 4", two.heard(3, 1), 2);
        refused(two, "1 and 3 are not HEARD", two.heard(3, 2), 6);

        says(49, "The k-th BELL HEARD in ROW i (1: no such ROW; 6: nothing RUNG, not so many).");
        nothing("heard", (y, n) -> y.heard(0, n));
        nothing("heard, far above", (y, n) -> y.heard(MOST, n));
        RingChamber none = with(SMALL);
        refused(none, "below 0, though nothing is RUNG", none.heard(-1, 0), 1);
        RingChamber x = rung(SMALL, "plain a;plain b;");
        range(x, "heard, ROW", 0, 2, i -> x.heard(i, 0));
        refused(x, "no such ROW ahead of not so many", x.heard(3, 9), 1);
        refused(x, "no such ROW ahead of not so many", x.heard(-1, 9), 1);
        fine(x, "the first of 2143", x.heard(1, 0), 1);
        fine(x, "the last of 2143", x.heard(1, 1), 3);
        for (int k : new int[] {2, 4, -1, LEAST, MOST}) refused(x, "not so many: " + k, x.heard(1, k), 6);
        RingChamber silent = rung(NOBODY, "plain a;");
        refused(silent, "none at all", silent.heard(0, 0), 6);
        refused(silent, "none at all", silent.heard(1, 0), 6);
        RingChamber all = rung(ALL_RING, "plain a;");
        int[] row = {2, 1, 4, 3};
        for (int k = 0; k < 4; k++) fine(all, "all", all.heard(1, k), row[k]);
        refused(all, "one more", all.heard(1, 4), 6);

        says(50, "How many of its ROWS 1 .. are HEARD as an earlier one of these (6).");
        nothing("heardAlike", (y, n) -> y.heardAlike());
        heardAlikeIs(SMALL, "", 0);
        heardAlikeIs(SMALL, "plain n;", 0);
        heardAlikeIs(SMALL, "plain a;plain b;", 1);
        heardAlikeIs(NOBODY, "plain a;", 0);
        heardAlikeIs(NOBODY, "plain a;plain b;plain a;", 2);
        heardAlikeIs(ALL_RING, "plain a;plain b;plain a;", 0);
        heardAlikeIs(ALL_RING, "plain n;plain n;plain a;plain a;", 2);
        int[] orders = {1, 1, 2, 6, 24};
        for (int set = 0; set < 16; set++) {
            StringBuilder book = new StringBuilder("stage 4;method e" + times(" x 14 x 14 x 14 x 12", 3) + ";");
            for (int b = 0; b < 4; b++) if ((set >> b & 1) == 1) book.append("ringer r").append((char) ('a' + b)).append(' ').append(b + 1).append(';');
            heardAlikeIs(book.toString(), "plain e;", 24 - orders[Integer.bitCount(set)]);
        }
        for (int b = 1; b < 8; b++) heardAlikeIs("stage 8;method h x 18;ringer a " + b + ";ringer b 8;", "loop 8;plain h;end;", 14);
        for (int set = 0; set < 256; set += 5) heardLong(set);
        // 2143 is heard 1 3, 2413 so too, 4231 as 3 1
        heardAlikeIs(SMALL, "plain a;plain b;plain a;", 1);
    }

    /** 2,000 ROWS rung by hand, of which the BELLS of a set are HEARD. */
    private static void heardLong(int set) {
        StringBuilder book = new StringBuilder("stage 8;method e" + times(" x 18", 15) + " x 12;");
        for (int b = 0; b < 8; b++) if ((set >> b & 1) == 1) book.append("ringer r").append((char) ('a' + b)).append(' ').append(b + 1).append(';');
        HashSet<String> sounds = new HashSet<>();
        int[] row = {0, 1, 2, 3, 4, 5, 6, 7};
        int alike = 0;
        for (int k = 0; k < 2000; k++) {
            for (int p = k % 2 == 0 ? 0 : k % 32 == 31 ? 2 : 1; p + 1 < 8; p += 2) {
                int bell = row[p];
                row[p] = row[p + 1];
                row[p + 1] = bell;
            }
            StringBuilder sound = new StringBuilder();
            for (int bell : row) if ((set >> bell & 1) == 1) sound.append(bell);
            if (!sounds.add(sound.toString())) alike++;
        }
        heardAlikeIs(book.toString(), "loop 99;plain e;end;", alike);
    }

    private static void heardAlikeIs(String book, String touch, int due) {
        RingChamber x = rung(book, touch);
        fine(x, "heardAlike of " + touch, x.heardAlike(), due);
    }

    private static void evens() {
        says(51, "The FRACTION is how many of its ROWS 1 .. are EVEN (6: nothing, no CHANGE RUNG).");
        nothing("evens", (y, n) -> y.evens() ? 1 : NONE);
        RingChamber x = rung(SMALL, "");
        denied(x, "no CHANGE RUNG", x.evens(), 6);
        due("top as it was", x.top(), 0);
        due("bottom as it was", x.bottom(), 1);
        evensAre("plain n;", 1, 1);
        evensAre("plain b;", 0, 1);
        evensAre("plain b;plain n;", 0, 1);
        evensAre("plain b;plain b;", 1, 2);
        evensAre("plain a;plain b;plain a;", 1, 3);
        evensAre("loop 99;plain n;end;plain b;", 99, 100);
        x = rung("stage 4;method e" + times(" 14", 32) + ";", "loop 99;plain e;end;");
        done(x, "of 2,000", x.evens());
        due("top", x.top(), 1);
        due("bottom", x.bottom(), 2);
    }

    private static void evensAre(String touch, int top, int bottom) {
        RingChamber x = rung(SMALL, touch);
        done(x, "evens of " + touch, x.evens());
        due("top of " + touch, x.top(), top);
        due("bottom of " + touch, x.bottom(), bottom);
    }

    // ---- straying

    private static void strayed() {
        term("STRAYED by a seed (0 to 9,999) and sixteenths (0 to 16)");
        RingChamber x = with(SMALL);
        Texts.touch(x, "plain a;");
        range(x, "seed", 0, 9999, n -> x.strayed(n, 8));
        range(x, "sixteenths", 0, 16, n -> x.strayed(77, n));
        for (int seed = 0; seed < 40; seed++) {
            fine(x, "0 sixteenths: never", x.strayed(seed * 250, 0), 7);
            fine(x, "16 sixteenths: always", x.strayed(seed * 250, 16), 1);
        }

        term("less than that: the first two that should exchange stay (none: nothing else).");
        straysTo("stage 8;method a x;", "plain a;", 16, "12436587");
        straysTo("stage 8;method a 18;", "plain a;", 16, "12354768");
        straysTo("stage 8;method a 123456;", "plain a;", 16, "12345678");
        straysTo("stage 8;method a 12345678;", "plain a;", 16, "12345678");
        straysTo("stage 5;method a 5 1;", "plain a;", 16, "12453");
        RingChamber y = rung(SMALL, "plain n;plain a;");
        // the draws from seed 0 are 2 and 1: one at each CHANGE, though nothing exchanges
        fine(y, "the second strays", y.strayed(0, 2), 1);
        fine(y, "neither", y.strayed(0, 1), 7);

        term("Draws: s, at first the seed, becomes what is left of s times 2,693 and 10,007 by 65,536; the draw is the rest of s by 8, rounded down, by 16.");
        // 9,999 becomes 2,018, whose draw is 12
        fine(x, "12 is not less than 12", x.strayed(9999, 12), 7);
        fine(x, "12 is less than 13", x.strayed(9999, 13), 1);
        for (int seed : new int[] {0, 1, 20, 21, 4242, 9998, 9999}) for (int sixteenths : new int[] {1, 8, 15})
            strayedLong(seed, sixteenths);

        says(52, "STRAYED: the ROW behind the last CHANGE (1; 6: no TOUCH).");
        RingChamber none = new RingChamber();
        refused(none, "no TOUCH", none.strayed(0, 0), 6);
        none = with(SMALL);
        refused(none, "no TOUCH with a BOOK alone", none.strayed(9999, 16), 6);
        for (int n : new int[] {-1, 10000, LEAST, MOST}) refused(none, "seed ahead of no TOUCH", none.strayed(n, 0), 1);
        for (int n : new int[] {-1, 17, LEAST, MOST}) refused(none, "sixteenths ahead of no TOUCH", none.strayed(0, n), 1);
        RingChamber empty = with(SMALL);
        empty.touch(0);
        fine(empty, "no CHANGE", empty.strayed(9999, 16), 0);
        refused(empty, "it is not RUNG by that", empty.told(5), 6);
        RingChamber rung = rung(SMALL, "plain a;");
        rung.strayed(0, 16);
        fine(rung, "what is RUNG is as it was", rung.rowAt(1), 7);
    }

    private static void straysTo(String book, String touch, int sixteenths, String row) {
        RingChamber x = with(book);
        Texts.touch(x, touch);
        int got = x.strayed(0, sixteenths);
        for (int p = 1; p <= row.length(); p++) due(touch + " of " + book + " place " + p, x.bell(got, p), row.charAt(p - 1) - '0');
    }

    /** 2,000 CHANGES strayed by hand, so that s goes round by 65,536 many times. */
    private static void strayedLong(int seed, int sixteenths) {
        RingChamber x = with("stage 8;method e" + times(" x 18", 15) + " x 12;");
        Texts.touch(x, "loop 99;plain e;end;");
        int[] row = {1, 2, 3, 4, 5, 6, 7, 8};
        long s = seed;
        for (int k = 0; k < 2000; k++) {
            s = (s * 2693 + 10007) % 65536;
            int first = k % 2 == 0 ? 0 : k % 32 == 31 ? 2 : 1;
            if (s / 8 % 16 < sixteenths) first += 2;
            for (int p = first; p + 1 < 8; p += 2) {
                int bell = row[p];
                row[p] = row[p + 1];
                row[p + 1] = bell;
            }
        }
        int got = x.strayed(seed, sixteenths);
        for (int p = 1; p <= 8; p++) due("seed " + seed + " place " + p, x.bell(got, p), row[p - 1]);
    }

    private static void odds() {
        says(53, "The FRACTION is for how many of so many seeds (1 to 20) from one on the ROW behind the last CHANGE is as without straying (1: the last above 9,999, too; 6)");
        RingChamber x = with(SMALL);
        Texts.touch(x, "plain a;");
        range(x, "seed", 0, 9999, n -> x.odds(n, 1, 8) ? 1 : NONE);
        range(x, "many", 1, 20, n -> x.odds(0, n, 8) ? 1 : NONE);
        range(x, "sixteenths", 0, 16, n -> x.odds(0, 1, n) ? 1 : NONE);
        done(x, "the last is 9,999", x.odds(9980, 20, 8));
        denied(x, "the last is 10,000", x.odds(9981, 20, 8), 1);
        denied(x, "the last is 10,000", x.odds(9999, 2, 8), 1);
        done(x, "the last is 9,999", x.odds(9998, 2, 8));
        denied(x, "far above", x.odds(MOST, MOST, 8), 1);
        denied(x, "the first below 0, though the last is not", x.odds(-1, 2, 8), 1);
        denied(x, "no seed at all", x.odds(5, 0, 8), 1);
        denied(x, "21 seeds", x.odds(5, 21, 8), 1);
        RingChamber none = new RingChamber();
        denied(none, "no TOUCH", none.odds(0, 1, 0), 6);
        denied(none, "the last above 9,999 ahead of no TOUCH", none.odds(9999, 2, 0), 1);
        denied(none, "many ahead of no TOUCH", none.odds(0, 0, 0), 1);
        denied(none, "many ahead of no TOUCH", none.odds(0, 21, 0), 1);
        denied(none, "sixteenths ahead of no TOUCH", none.odds(0, 1, 17), 1);
        denied(none, "seed ahead of no TOUCH", none.odds(-1, 1, 0), 1);
        due("top as it was", none.top(), 0);
        oddsAre("plain a;", 0, 20, 0, 1, 1);
        oddsAre("plain a;", 0, 20, 16, 0, 1);
        oddsAre("", 0, 20, 16, 1, 1);
        oddsAre("plain n;", 9980, 20, 16, 1, 1);
        // the first draws of seeds 0 to 3 are 2 3 4 4, that of 9,999 is 12
        oddsAre("plain a;", 0, 3, 4, 1, 3);
        oddsAre("plain a;", 1, 3, 4, 2, 3);
        oddsAre("plain a;", 0, 1, 2, 1, 1);
        oddsAre("plain a;", 0, 1, 3, 0, 1);
        oddsAre("plain a;", 9999, 1, 12, 1, 1);
        oddsAre("plain a;", 9999, 1, 13, 0, 1);
    }

    private static void oddsAre(String touch, int seed, int many, int sixteenths, int top, int bottom) {
        RingChamber x = with(SMALL);
        Texts.touch(x, touch);
        done(x, "odds of " + touch, x.odds(seed, many, sixteenths));
        due("top of " + touch + " from " + seed, x.top(), top);
        due("bottom of " + touch + " from " + seed, x.bottom(), bottom);
    }

    // ---- searches

    private static void way() {
        term("WAY to a ROW: the fewest LEADS, each of any METHOD with any call, that lead to it from ROUNDS");
        String book = "stage 4;method a 1234 bob 12 single 14;method b x bob 34;";
        wayIs(book, 0);
        wayIs(book, 1, 0, 1);
        wayIs(book, 2, 0, 2);
        wayIs(book, 7, 1, 0);
        wayIs(book, 6, 1, 1);
        wayIs(book, 4, 0, 1, 0, 2);
        wayIs(book, 13, 0, 2, 1, 0);
        wayIs(book, 10, 1, 0, 0, 2);

        term("first the ROWS that one LEAD leads to, by METHODS, plain, bob, single of each");
        for (int call = 0; call < 3; call++) {
            String first = new String[] {"x", "12 bob x", "12 single x"}[call];
            wayIs("stage 4;method a " + first + ";method b x;", 7, 0, call);
        }
        wayIs("stage 4;method a 12 single x;method b x bob 14 single 14;", 2, 1, 1);

        term("from these in the order in which they were found ..; each ROW is come to as it was found first.");
        wayIs("stage 4;method a 12;method b 34;", 7, 0, 0, 1, 0);
        wayIs("stage 4;method a 34;method b 12;", 7, 0, 0, 1, 0);
        wayIs("stage 4;method a 12 bob 34;", 7, 0, 0, 0, 1);
        wayIs("stage 4;method a 12;method b 12;method c 12 bob 34 single 34;", 7, 0, 0, 2, 1);
        wayIs("stage 4;method a 1234;method b 1234;method c 1234;method d 1234 single x;", 7, 3, 2);

        says(54, "WAY to a ROW: how many LEADS (1; 6: there is none).");
        rows("way", (y, n) -> y.way(n));
        RingChamber x = new RingChamber();
        fine(x, "ROUNDS without a METHOD", x.way(0), 0);
        for (int r = 1; r < 24; r++) refused(x, "none without a METHOD", x.way(r), 6);
        x = with("stage 8;method a x 18;");
        int at = 0;
        for (int n = 0; n < 8; n++) {
            fine(x, "the whole COURSE", x.way(at), n);
            at = x.product(at, x.head(0, 0));
        }
        refused(x, "one beside it", x.way(1), 6);
        fine(x, "the last ROW", x.way(40319), 4);

        farthest();

        says(55, "Its k-th LEAD, by way() latest with STATUS 0, what 0: the METHOD, 1: the call (1: what; 6).");
        x = with(book);
        refused(x, "ahead of any", x.wayAt(0, 0), 6);
        refused(x, "ahead of any", x.wayAt(0, 1), 6);
        for (int what : new int[] {-1, 2, LEAST, MOST}) refused(x, "what " + what + " ahead of none", x.wayAt(0, what), 1);
        refused(x, "what ahead of k", x.wayAt(-1, 2), 1);
        fine(x, "two LEADS", x.way(10), 2);
        fine(x, "the first", x.wayAt(0, 0), 1);
        fine(x, "the last", x.wayAt(1, 1), 2);
        for (int k : new int[] {-1, 2, LEAST, MOST}) refused(x, "no LEAD " + k, x.wayAt(k, 0), 6);
        refused(x, "STATUS 1", x.way(24), 1);
        fine(x, "that with STATUS 0 is told still", x.wayAt(0, 0), 1);
        x.extent();
        x.compositions(0, 1, 1);
        fine(x, "told still", x.wayAt(1, 1), 2);
        fine(x, "ROUNDS: no LEAD", x.way(0), 0);
        refused(x, "none", x.wayAt(0, 0), 6);
        x = with("stage 4;method a 12;");
        fine(x, "one LEAD", x.way(1), 1);
        refused(x, "STATUS 6", x.way(7), 6);
        fine(x, "that with STATUS 0 is told still", x.wayAt(0, 0), 0);
        refused(x, "one LEAD alone", x.wayAt(1, 0), 6);

        term("EXTENT: how many ROWS can be come to so (ROUNDS with no LEAD, too).");
        x = with("stage 4;method a x;");
        fine(x, "ROUNDS and another", x.extent(), 2);
        x = with("stage 8;");
        fine(x, "ROUNDS alone", x.extent(), 1);

        says(56, "EXTENT.");
        x = new RingChamber();
        fine(x, "ROUNDS with no LEAD", x.extent(), 1);
        x = with("stage 4;method a 1234;");
        fine(x, "ROUNDS alone", x.extent(), 1);
        x = with("stage 4;method a 12;method b 34;");
        fine(x, "four", x.extent(), 4);
        for (int stage = 4; stage <= 8; stage++) {
            String turn = stage % 2 == 0 ? "x 1" + stage : stage + " 1";
            x = with("stage " + stage + ";method a " + stays(stage).substring(2) + ";method b " + turn + ";");
            fine(x, "all ROWS of stage " + stage, x.extent(), ROWS[stage]);
            due("the last ROW can be come to", x.way(ROWS[stage] - 1) > 0, true);
            Texts.book(x, "stage " + stage + ";");
            refused(x, "no WAY of the BOOK ahead", x.way(ROWS[stage] - 1), 6);
            fine(x, "without a METHOD again", x.extent(), 1);
            Texts.book(x, "stage " + stage + ";method b " + stays(stage).substring(2) + ";");
            fine(x, "another BOOK", x.extent(), 2);
            fine(x, "smaller", Texts.book(x, "stage 4;method a 12;method b 34;"), 2);
            fine(x, "smaller", x.extent(), 4);
            refused(x, "none", x.way(2), 6);
        }
    }

    /** No ROW is farther: 35 LEADS, which lead to it one by one. */
    private static void farthest() {
        RingChamber x = with("stage 8;method a 345678;method b x 18;");
        fine(x, "LEADS", x.way(15127), 35);
        int at = 0;
        for (int k = 0; k < 35; k++) at = x.product(at, x.head(x.wayAt(k, 0), x.wayAt(k, 1)));
        due("where they lead", at, 15127);
        refused(x, "no more", x.wayAt(35, 0), 6);
    }

    /** The LEADS of a WAY are told as METHOD, call, METHOD, call .. */
    private static void wayIs(String book, int row, int... leads) {
        RingChamber x = with(book);
        fine(x, "LEADS to " + row, x.way(row), leads.length / 2);
        for (int i = 0; i < leads.length; i++) fine(x, "LEAD " + i / 2 + " to " + row, x.wayAt(i / 2, i % 2), leads[i]);
        refused(x, "no more", x.wayAt(leads.length / 2, 0), 6);
    }

    private static void compositions() {
        term("COMPOSITIONS of a METHOD, so many LEADS (1 to 8), calls out of a set (1 plain, 2 bob, 4 single)");
        RingChamber x = with("stage 4;method a 12 bob 34 single x;");
        range(x, "LEADS", 1, 8, n -> x.compositions(0, n, 7));
        range(x, "set", 1, 7, n -> x.compositions(0, 2, n));
        int[] two = {0, 1, 1, 2, 1, 2, 2, 3};
        for (int set = 1; set <= 7; set++) fine(x, "two LEADS out of " + set, x.compositions(0, 2, set), two[set]);
        int[] many = {0, 0, 3, 6, 6, 0, 0, 0, 0};
        for (int n = 1; n <= 8; n++) fine(x, n + " LEADS", x.compositions(0, n, 7), many[n]);

        term("rows of calls such that behind the last LEAD there is ROUNDS, and all ROWS of it are unlike one another");
        RingChamber y = with("stage 4;method a 1234;method b x;method c x x;method d x x x x;");
        fine(y, "ROUNDS once", y.compositions(0, 1, 1), 1);
        fine(y, "ROUNDS twice", y.compositions(0, 2, 1), 0);
        fine(y, "not ROUNDS", y.compositions(1, 1, 1), 0);
        fine(y, "ROUNDS behind the last", y.compositions(1, 2, 1), 1);
        fine(y, "ROUNDS twice", y.compositions(1, 4, 1), 0);
        fine(y, "ROUNDS at the end of a LEAD", y.compositions(2, 1, 1), 1);
        fine(y, "ROUNDS within a LEAD", y.compositions(3, 1, 1), 0);
        y = with("stage 4;method a x 14 bob 1234;method b x x 14;method c x 14 14 bob 12;");
        // 2143 2143 1234 1234
        fine(y, "a bob strikes a ROW again", y.compositions(0, 2, 2), 0);
        // 2143 1234 1324 3142 1324 1234
        fine(y, "ROUNDS within", y.compositions(1, 2, 1), 0);
        // 2143 2413 2431 4213 4123 4132 1423 1243 1234
        fine(y, "with bobs a ROW is not there again", y.compositions(2, 3, 2), 1);
        fine(y, "with plain it is", y.compositions(2, 3, 1), 0);
        fine(y, "and the last alone may not be", y.compositions(2, 3, 3), 1);

        says(57, "COMPOSITIONS (1: the empty set, too).");
        methods("compositions", (z, n) -> z.compositions(n, 1, 1));
        for (int set : new int[] {0, 8, 9, 15, 16, -1, LEAST, MOST}) refused(x, "set " + set, x.compositions(0, 2, set), 1);
        for (int n : new int[] {0, 9, -1, LEAST, MOST}) refused(x, "LEADS " + n, x.compositions(0, n, 7), 1);
        RingChamber hunt = with("stage 8;method a x 18;");
        fine(hunt, "8 LEADS, plain", hunt.compositions(0, 8, 1), 1);
        fine(hunt, "8 LEADS, calls all the same", hunt.compositions(0, 8, 7), 6561);
        fine(hunt, "8 LEADS, two calls", hunt.compositions(0, 8, 6), 256);
        fine(hunt, "7 LEADS are not enough", hunt.compositions(0, 7, 7), 0);

        term("the FIRST by calls from the first on (plain ahead of bob ahead of single).");
        firstIs(x, 3, 7, 0, 1, 2);
        firstIs(x, 2, 7, 0, 0);
        firstIs(x, 2, 6, 1, 1);
        firstIs(x, 2, 4, 2, 2);
        firstIs(x, 4, 7, 0, 1, 0, 1);
        firstIs(x, 4, 6, 1, 2, 1, 2);
        firstIs(hunt, 8, 7, 0, 0, 0, 0, 0, 0, 0, 0);
        firstIs(hunt, 8, 6, 1, 1, 1, 1, 1, 1, 1, 1);

        says(58, "The k-th call of the FIRST, by compositions() latest with STATUS 0 (6: none such).");
        RingChamber z = with("stage 4;method a 12 bob 34 single x;");
        refused(z, "ahead of any", z.callAt(0), 6);
        fine(z, "three LEADS", z.compositions(0, 3, 7), 6);
        fine(z, "the first", z.callAt(0), 0);
        fine(z, "the last", z.callAt(2), 2);
        for (int k : new int[] {-1, 3, 8, LEAST, MOST}) refused(z, "k " + k, z.callAt(k), 6);
        refused(z, "STATUS 1", z.compositions(0, 2, 0), 1);
        fine(z, "that with STATUS 0 is told still", z.callAt(2), 2);
        fine(z, "none", z.compositions(0, 1, 7), 0);
        refused(z, "no FIRST", z.callAt(0), 6);
    }

    private static void firstIs(RingChamber x, int leads, int set, int... calls) {
        x.compositions(0, leads, set);
        for (int k = 0; k < calls.length; k++) fine(x, "call " + k + " of " + leads + " LEADS out of " + set, x.callAt(k), calls[k]);
        refused(x, "no more", x.callAt(calls.length), 6);
    }

    // ---- MARKS

    private static void marks() {
        says(59, "A MARK more: how many there are (4).");
        RingChamber x = new RingChamber();
        for (int n = 1; n <= 3; n++) fine(x, "mark", x.mark(), n);
        refused(x, "one too many", x.mark(), 4);
        refused(x, "again", x.mark(), 4);
        fine(x, "three there are", x.back(), 2);
        fine(x, "one more may be again", x.mark(), 3);
        refused(x, "one too many", x.mark(), 4);

        says(60, "All is taken back to the latest MARK: how many there are left (6).");
        x = new RingChamber();
        refused(x, "none", x.back(), 6);
        x.mark();
        x.mark();
        x.mark();
        for (int n = 2; n >= 0; n--) fine(x, "left", x.back(), n);
        refused(x, "none left", x.back(), 6);

        term("MARKS, at most 3: the BOOK, the TOUCH and what is RUNG are kept as they are; all is taken back to the latest MARK, which is gone then.");
        x = new RingChamber();
        x.mark();
        Texts.book(x, SMALL);
        x.mark();
        Texts.touch(x, "plain a;");
        x.mark();
        x.ring();
        Texts.book(x, "stage 8;");
        refused(x, "a fourth keeps nothing", x.mark(), 4);
        x.back();
        fine(x, "the BOOK", x.told(0), 4);
        fine(x, "its METHODS", x.told(1), 4);
        fine(x, "its RINGERS", x.told(3), 10);
        fine(x, "the TOUCH", x.told(4), 1);
        refused(x, "not RUNG then", x.told(5), 6);
        fine(x, "the TOUCH can be rung", x.ring(), 1);
        x.back();
        fine(x, "the BOOK", x.told(1), 4);
        refused(x, "no TOUCH then", x.told(4), 6);
        refused(x, "nothing RUNG then", x.rowAt(0), 6);
        x.back();
        fine(x, "no METHODS at first", x.told(1), 0);
        fine(x, "all are SILENT", x.told(3), 15);
        refused(x, "the MARKS are gone", x.back(), 6);
        x = rung(SMALL, "plain a;plain b;");
        x.mark();
        Texts.touch(x, "");
        x.ring();
        x.back();
        fine(x, "RUNG as it was", x.rowAt(2), 10);
        fine(x, "the TOUCH as it was", x.strayed(0, 0), 10);
        x.mark();
        Texts.book(x, "stage 5;");
        refused(x, "faulty", Texts.book(x, "stage 9;"), 9);
        x.back();
        fine(x, "RUNG as it was", x.told(5), 2);
        fine(x, "a search of that BOOK", x.extent(), with(SMALL).extent());
        beside(x);
    }

    /** What a MARK does not keep. */
    private static void beside(RingChamber x) {
        term("MARKS, at most 3: the BOOK, the TOUCH and what is RUNG are kept as they are");
        x.mark();
        fill(x, 0, 2, 42);
        x.evens();
        x.way(7);
        x.compositions(1, 2, 1);
        Texts.feed(x, "stage 9;            ");
        x.back();
        fine(x, "a TRAY stays", x.read(0, 0), 42);
        due("the FRACTION stays", x.bottom(), 2);
        fine(x, "the WAY stays", x.wayAt(0, 0), 1);
        fine(x, "the FIRST stays", x.callAt(1), 0);
        due("the tape stays", x.feed(0, 0, 0, 0, 0), 40);
        x.mark();
        refused(x, "a FAULT", x.book(20), 9);
        x.back();
        due("the FAULT stays", x.fault(0), 4);
        due("its place stays", x.fault(1), 6);
    }

    public static void main(String[] args) {
        ring();
        rowAt();
        truth();
        places();
        music();
        runs();
        work();
        heard();
        evens();
        strayed();
        odds();
        way();
        compositions();
        marks();
        settle("TouchEdgeTest", 36, 60);
    }
}
