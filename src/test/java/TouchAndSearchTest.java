/** Promises 36 to 60, each by itself: ordinary inputs, the edges the document names, and wrong inputs. */
public final class TouchAndSearchTest extends Due {
    private static final String COURSE = "loop 3;plain plainb;end;";
    /** a: x; b: 14; c: x 14; d: 32 changes. Bells 1 and 3 are rung. */
    private static final String FOUR = "stage 4;method a x bob 14;method b 14 single 12;method c x 14;"
            + "method d x 14 x 14 x 14 x 14 x 14 x 14 x 14 x 14 back 14;ringer o 1;ringer p 3;";

    private static void ringsTo(String touch, int changes) {
        RingChamber x = with(FOUR);
        Texts.touch(x, touch);
        fine(x, "ring() of " + touch, x.ring(), changes);
        fine(x, "told(5)", x.told(5), changes);
    }

    private static void ring() {
        promise = 36;
        RingChamber x = with(FOUR);
        refused(x, "no touch", x.ring(), 6);
        ringsTo("", 0);
        ringsTo("plain a;bob a;single b;", 3);
        ringsTo("part d 5;part c 1;part c 2;", 8);
        ringsTo("loop 3;plain c;loop 2;plain a;end;end;plain b;", 13);
        ringsTo("plain a;stop;plain a;", 1);
        ringsTo("loop 5;plain a;stop;end;plain a;", 1);
        ringsTo("loop 99;end;plain a;", 1);
        ringsTo("loop 99;plain d;end;", 2000);
        ringsTo("loop 62;plain d;end;part d 15;plain a;plain a;", 2000);
        ringsTo("loop 99;plain a;plain a;plain a;plain a;end;", 299);
        ringsTo("loop 99;loop 99;loop 99;end;end;end;plain a;", 0);
        ringsTo("loop 99;plain a;end;loop 99;plain a;end;loop 99;plain a;end;plain a;", 99 * 3);
        ringsTo("loop 99;plain a;end;loop 99;plain a;end;loop 98;plain a;end;plain a;plain a;", 99 * 2 + 98 + 1);
        x = rung(FOUR, "plain a;");
        fine(x, "again", x.ring(), 1);
    }

    private static void rowAt() {
        promise = 37;
        RingChamber x = with(FOUR);
        refused(x, "nothing rung", x.rowAt(0), 6);
        refused(x, "nothing rung", x.rowAt(2001), 6);
        refused(x, "below 0", x.rowAt(-1), 1);
        Texts.touch(x, "plain c;bob a;single b;");
        refused(x, "not rung yet", x.rowAt(0), 6);
        x.ring();
        int[] rows = {0, 7, 10, 7, 6};
        for (int k = 0; k <= 4; k++) fine(x, "row " + k, x.rowAt(k), rows[k]);
        refused(x, "above", x.rowAt(5), 1);
        refused(x, "below 0", x.rowAt(Integer.MIN_VALUE), 1);
        Texts.touch(x, "plain a;");
        refused(x, "a new touch is not rung", x.rowAt(0), 6);
    }

    private static void round() {
        promise = 38;
        RingChamber x = with(FOUR);
        refused(x, "nothing rung", x.round(), 6);
        x = rung(MINIMUS, COURSE);
        fine(x, "a course", x.round(), 24);
        x = rung(MINIMUS, "plain plainb;");
        refused(x, "a lead", x.round(), 6);
        x = rung(FOUR, "");
        refused(x, "row 0 is not asked", x.round(), 6);
        x = rung(FOUR, "plain a;plain a;plain b;plain b;");
        fine(x, "the first", x.round(), 2);
    }

    private static void truth() {
        RingChamber none = with(FOUR);
        RingChamber good = rung(MINIMUS, COURSE);
        RingChamber bad = rung(FOUR, "plain b;plain a;plain a;plain b;plain b;");
        promise = 39;
        refused(none, "nothing rung", none.isTrue(), 6);
        fine(good, "a course", good.isTrue(), 1);
        fine(bad, "false", bad.isTrue(), 0);
        RingChamber empty = rung(FOUR, "");
        fine(empty, "no row", empty.isTrue(), 1);
        RingChamber round = rung(FOUR, "plain a;plain a;");
        fine(round, "row 0 does not count", round.isTrue(), 1);
        promise = 40;
        refused(none, "nothing rung", none.falseAt(0), 6);
        refused(none, "what", none.falseAt(2), 1);
        refused(good, "true", good.falseAt(1), 6);
        refused(good, "what", good.falseAt(-1), 1);
        // 1324 3142 1324 1234 1324
        fine(bad, "the first", bad.falseAt(0), 1);
        fine(bad, "the second", bad.falseAt(1), 3);
        RingChamber late = rung(FOUR, "plain b;plain a;plain b;plain b;plain a;");
        fine(late, "by the second", late.falseAt(0), 2);
        fine(late, "by the second", late.falseAt(1), 4);
        promise = 41;
        refused(none, "nothing rung", none.repeats(), 6);
        fine(good, "a course", good.repeats(), 0);
        fine(bad, "two", bad.repeats(), 2);
        fine(late, "two", late.repeats(), 2);
        RingChamber twice = rung(MINIMUS, "loop 6;plain plainb;end;");
        fine(twice, "two courses", twice.repeats(), 24);
    }

    private static void place() {
        promise = 42;
        RingChamber x = with(FOUR);
        refused(x, "nothing rung", x.place(1, 0), 6);
        refused(x, "bell", x.place(0, 0), 1);
        refused(x, "below 0", x.place(1, -1), 1);
        x = rung(MINIMUS, "plain plainb;");
        int[] hunt = {1, 2, 3, 4, 4, 3, 2, 1, 1};
        for (int k = 0; k <= 8; k++) fine(x, "the treble", x.place(1, k), hunt[k]);
        refused(x, "above", x.place(1, 9), 1);
        refused(x, "bell", x.place(5, 0), 1);
    }

    private static void blows() {
        promise = 43;
        RingChamber x = with(FOUR);
        refused(x, "nothing rung", x.blows(1, 1), 6);
        refused(x, "bell", x.blows(0, 1), 1);
        refused(x, "place", x.blows(1, 5), 1);
        x = rung(MINIMUS, COURSE);
        for (int b = 1; b <= 4; b++) for (int p = 1; p <= 4; p++) fine(x, "all rows", x.blows(b, p), 6);
        x = rung(FOUR, "plain b;plain b;plain b;");
        fine(x, "row 0 does not count", x.blows(1, 1), 3);
        fine(x, "2 in 3", x.blows(2, 3), 2);
        fine(x, "4 in 1", x.blows(4, 1), 0);
        x = rung("stage 8;method a x;", "plain a;");
        fine(x, "7 in 8", x.blows(7, 8), 1);
        fine(x, "8 in 8", x.blows(8, 8), 0);
    }

    private static void music() {
        promise = 44;
        RingChamber x = with(FOUR);
        refused(x, "tray", x.music(4), 1);
        refused(x, "missing", x.music(0), 2);
        fill(x, 0, 2, 9, 9, 9);
        refused(x, "too few", x.music(0), 3);
        fill(x, 0, 2, 0, 0, 0, 5);
        refused(x, "no bell", x.music(0), 5);
        fill(x, 0, 3, 0, 0, 0, -1);
        refused(x, "no bell", x.music(0), 5);
        fill(x, 0, 2, 0, 0, 0, 4);
        refused(x, "nothing rung", x.music(0), 6);
        x = rung(MINIMUS, COURSE);
        fill(x, 0, 2, 0, 0, 0, 4, 77);
        fine(x, "4 at the end", x.music(0), 6);
        fill(x, 1, 0, 0, 0, 0, 0);
        fine(x, "any", x.music(1), 24);
        fill(x, 2, 1, 0, 0, 3, 4);
        fine(x, "34 at the end", x.music(2), 2);
        fill(x, 2, 1, 1, 2, 3, 4);
        fine(x, "rounds at the end counts", x.music(2), 1);
        fill(x, 2, 1, 0, 2, 2, 0);
        fine(x, "a bell twice fits none", x.music(2), 0);
    }

    private static void runs() {
        promise = 45;
        RingChamber x = with("stage 6;method a 123456;method b x;");
        refused(x, "2", x.runs(2), 1);
        refused(x, "7", x.runs(7), 1);
        refused(x, "nothing rung", x.runs(3), 6);
        Texts.touch(x, "plain a;plain b;");
        x.ring();
        fine(x, "3", x.runs(3), 4);
        fine(x, "4", x.runs(4), 3);
        fine(x, "6", x.runs(6), 1);
        x = rung(MINIMUS, COURSE);
        fine(x, "up and down", x.runs(4), 2);
        fine(x, "up and down", x.runs(3), 8);
        refused(x, "above the stage", x.runs(5), 1);
    }

    private static void work() {
        RingChamber none = with(FOUR);
        RingChamber dodge = rung(FOUR, "plain a;plain a;plain a;plain b;plain b;");
        promise = 46;
        refused(none, "nothing rung", none.dodges(1), 6);
        refused(none, "bell", none.dodges(5), 1);
        // 1234 2143 1234 2143 2413 2143
        fine(dodge, "1: 1 2 1 2 3 2", dodge.dodges(1), 3);
        fine(dodge, "2: 2 1 2 1 1 1", dodge.dodges(2), 2);
        fine(dodge, "3: 3 4 3 4 4 4", dodge.dodges(3), 2);
        refused(dodge, "bell", dodge.dodges(0), 1);
        promise = 47;
        refused(none, "nothing rung", none.lies(1), 6);
        refused(none, "bell", none.lies(-1), 1);
        fine(dodge, "1", dodge.lies(1), 0);
        fine(dodge, "2", dodge.lies(2), 2);
        RingChamber still = rung(FOUR, "plain b;plain b;");
        fine(still, "from row 0 on", still.lies(1), 2);
        fine(still, "none", still.lies(2), 0);
        refused(still, "bell", still.lies(5), 1);
        promise = 48;
        refused(none, "nothing rung", none.backward(), 6);
        fine(dodge, "x x x 14 14", dodge.backward(), 0);
        fine(still, "14 14", still.backward(), 1);
        RingChamber palindrome = rung(FOUR, "plain c;plain a;");
        fine(palindrome, "x 14 x", palindrome.backward(), 1);
        RingChamber lead = rung(FOUR, "plain c;");
        fine(lead, "x 14", lead.backward(), 0);
        RingChamber empty = rung(FOUR, "");
        fine(empty, "none", empty.backward(), 1);
    }

    private static void heard() {
        promise = 49;
        RingChamber x = with(FOUR);
        refused(x, "nothing rung", x.heard(0, 0), 6);
        refused(x, "below 0", x.heard(-1, 0), 1);
        Texts.touch(x, "plain c;");
        x.ring();
        fine(x, "row 0", x.heard(0, 0), 1);
        fine(x, "row 0", x.heard(0, 1), 3);
        // 2413
        fine(x, "row 2", x.heard(2, 0), 1);
        fine(x, "row 2", x.heard(2, 1), 3);
        refused(x, "not so many", x.heard(2, 2), 6);
        refused(x, "not so many", x.heard(2, -1), 6);
        refused(x, "row", x.heard(3, 0), 1);
        x = rung(MINIMUS, "plain plainb;");
        int[] second = {2, 1, 4};
        for (int k = 0; k < 3; k++) fine(x, "2143 without 3", x.heard(1, k), second[k]);
        promise = 50;
        RingChamber none = with(FOUR);
        refused(none, "nothing rung", none.heardAlike(), 6);
        x = rung(MINIMUS, COURSE);
        fine(x, "6 ways of three bells", x.heardAlike(), 18);
        x = rung("stage 4;method a x 14;", "loop 4;plain a;end;");
        fine(x, "all are silent", x.heardAlike(), 7);
        x = rung("stage 4;method a x 14;ringer e 1;ringer b 2;ringer c 3;ringer d 4;", "loop 5;plain a;end;");
        fine(x, "none is silent", x.heardAlike(), 2);
    }

    private static void evens() {
        promise = 51;
        RingChamber x = with(FOUR);
        denied(x, "nothing rung", x.evens(), 6);
        Texts.touch(x, "");
        x.ring();
        denied(x, "no change", x.evens(), 6);
        Texts.touch(x, "plain a;plain a;plain b;");
        denied(x, "nothing rung", x.evens(), 6);
        x.ring();
        done(x, "two of three", x.evens());
        due("top", x.top(), 2);
        due("bottom", x.bottom(), 3);
        Texts.touch(x, "plain b;");
        x.ring();
        done(x, "none", x.evens());
        due("top", x.top(), 0);
        due("bottom", x.bottom(), 1);
    }

    private static void straying() {
        promise = 52;
        RingChamber x = with(FOUR);
        refused(x, "no touch", x.strayed(0, 0), 6);
        refused(x, "seed", x.strayed(-1, 0), 1);
        refused(x, "seed", x.strayed(10000, 0), 1);
        refused(x, "sixteenths", x.strayed(0, -1), 1);
        refused(x, "sixteenths", x.strayed(0, 17), 1);
        Texts.touch(x, "plain c;");
        // the draws from seed 0 are 2 and 1
        fine(x, "none", x.strayed(0, 0), 10);
        fine(x, "none", x.strayed(0, 1), 10);
        fine(x, "the second", x.strayed(0, 2), 7);
        fine(x, "both", x.strayed(0, 3), 1);
        fine(x, "both", x.strayed(9999, 16), 1);
        refused(x, "it is not rung by that", x.told(5), 6);
        Texts.touch(x, "");
        fine(x, "no change", x.strayed(5, 16), 0);
        promise = 53;
        RingChamber none = with(FOUR);
        denied(none, "no touch", none.odds(0, 1, 1), 6);
        denied(none, "seed", none.odds(-1, 1, 1), 1);
        denied(none, "many", none.odds(0, 0, 1), 1);
        denied(none, "many", none.odds(0, 21, 1), 1);
        denied(none, "sixteenths", none.odds(0, 1, 17), 1);
        denied(none, "the last", none.odds(9999, 2, 1), 1);
        denied(none, "the last", none.odds(9981, 20, 1), 1);
        Texts.touch(x, "plain a;");
        done(x, "odds", x.odds(9980, 20, 0));
        due("top", x.top(), 1);
        due("bottom", x.bottom(), 1);
        // the first draws from seeds 0 to 3 are 2 3 4 4
        done(x, "odds", x.odds(0, 4, 3));
        due("top", x.top(), 3);
        due("bottom", x.bottom(), 4);
        done(x, "odds", x.odds(0, 4, 4));
        due("top", x.top(), 1);
        due("bottom", x.bottom(), 2);
        done(x, "odds", x.odds(0, 4, 5));
        due("top", x.top(), 0);
        due("bottom", x.bottom(), 1);
    }

    private static void way() {
        promise = 54;
        RingChamber x = with(MINIMUS);
        int[] lengths = {0, 2, 1, 1, 2, 2};
        for (int r = 0; r < 6; r++) fine(x, "way", x.way(r), lengths[r]);
        refused(x, "none", x.way(6), 6);
        refused(x, "row", x.way(24), 1);
        refused(x, "row", x.way(-1), 1);
        promise = 55;
        fine(x, "1243", x.way(1), 2);
        fine(x, "single", x.wayAt(0, 1), 2);
        fine(x, "plain", x.wayAt(1, 1), 0);
        fine(x, "the method", x.wayAt(1, 0), 0);
        x.way(6);
        fine(x, "the latest with status 0", x.wayAt(0, 1), 2);
        refused(x, "what", x.wayAt(0, 2), 1);
        refused(x, "what", x.wayAt(9, -1), 1);
        refused(x, "no such", x.wayAt(2, 0), 6);
        refused(x, "no such", x.wayAt(-1, 0), 6);
        Texts.book(x, "stage 4;method a 1234 bob x;method b x single 14;");
        fine(x, "told by the latest way still", x.wayAt(0, 1), 2);
        fine(x, "rounds", x.way(0), 0);
        refused(x, "no such", x.wayAt(0, 0), 6);
        fine(x, "2143", x.way(7), 1);
        fine(x, "by the first method", x.wayAt(0, 0), 0);
        fine(x, "by its bob", x.wayAt(0, 1), 1);
        fine(x, "1324", x.way(2), 1);
        fine(x, "by the second", x.wayAt(0, 0), 1);
        fine(x, "by its single", x.wayAt(0, 1), 2);
        promise = 56;
        fine(x, "x and 14", x.extent(), 8);
        x = with(MINIMUS);
        fine(x, "three bells", x.extent(), 6);
        x = new RingChamber();
        fine(x, "no method", x.extent(), 1);
        x = with("stage 8;method a 345678 12 1456 16 bob x;method b 18;method c 123456;method d 12 56;");
        fine(x, "all rows", x.extent(), 40320);
    }

    private static void compositions() {
        promise = 57;
        RingChamber x = with(MINIMUS);
        refused(x, "method", x.compositions(1, 1, 1), 1);
        refused(x, "leads", x.compositions(0, 0, 1), 1);
        refused(x, "leads", x.compositions(0, 9, 1), 1);
        refused(x, "the empty set", x.compositions(0, 1, 0), 1);
        refused(x, "others", x.compositions(0, 1, 8), 1);
        refused(x, "others", x.compositions(0, 1, -1), 1);
        fine(x, "three plain leads", x.compositions(0, 3, 1), 1);
        fine(x, "a bob", x.compositions(0, 1, 7), 1);
        fine(x, "none without it", x.compositions(0, 1, 5), 0);
        fine(x, "a single strikes the lead's end again", x.compositions(0, 2, 4), 0);
        fine(x, "rounds within", x.compositions(0, 6, 1), 0);
        x = with(MINOR);
        fine(x, "three bobs", x.compositions(0, 3, 2), 1);
        fine(x, "the plain course", x.compositions(0, 5, 1), 1);
        due("rounds twice in a lead", with("stage 4;method a x x x x;").compositions(0, 1, 1), 0);
        promise = 58;
        fine(x, "with both", x.compositions(0, 5, 3), 1);
        for (int k = 0; k < 5; k++) fine(x, "plain", x.callAt(k), 0);
        refused(x, "no such", x.callAt(5), 6);
        refused(x, "no such", x.callAt(-1), 6);
        x.compositions(0, 3, 7);
        for (int k = 0; k < 3; k++) fine(x, "bob", x.callAt(k), 1);
        x.compositions(0, 0, 7);
        fine(x, "the latest with status 0", x.callAt(0), 1);
        fine(x, "none", x.compositions(0, 1, 7), 0);
        refused(x, "none such", x.callAt(0), 6);
        x = with("stage 4;method a x 14 back 14 bob 14 single 14;");
        fine(x, "calls alike", x.compositions(0, 2, 6), 4);
        fine(x, "bob is ahead of single", x.callAt(1), 1);
    }

    private static void marks() {
        promise = 59;
        RingChamber x = with(MINIMUS);
        Texts.touch(x, "plain plainb;");
        x.ring();
        fine(x, "one", x.mark(), 1);
        Texts.touch(x, "plain plainb;stop;");
        fine(x, "two", x.mark(), 2);
        Texts.book(x, MINOR);
        fine(x, "three", x.mark(), 3);
        refused(x, "one too many", x.mark(), 4);
        promise = 60;
        Texts.book(x, "stage 8;");
        fill(x, 0, 2, 5);
        fine(x, "two left", x.back(), 2);
        fine(x, "stage", x.told(0), 6);
        fine(x, "methods", x.told(1), 2);
        refused(x, "no touch", x.told(4), 6);
        fine(x, "trays are not taken back", x.read(0, 0), 5);
        fine(x, "one left", x.back(), 1);
        fine(x, "stage", x.told(0), 4);
        fine(x, "silent", x.told(3), 4);
        fine(x, "steps", x.told(4), 2);
        refused(x, "not rung", x.told(5), 6);
        fine(x, "the way of that book", x.extent(), 6);
        x.ring();
        fine(x, "none left", x.back(), 0);
        fine(x, "steps", x.told(4), 1);
        fine(x, "rung", x.told(5), 8);
        fine(x, "rung", x.rowAt(8), 3);
        refused(x, "no mark", x.back(), 6);
        fine(x, "again", x.mark(), 1);
        Texts.touch(x, "");
        fine(x, "back", x.back(), 0);
        fine(x, "still rung", x.rowAt(1), 7);
    }

    public static void main(String[] args) {
        ring();
        rowAt();
        round();
        truth();
        place();
        blows();
        music();
        runs();
        work();
        heard();
        evens();
        straying();
        way();
        compositions();
        marks();
        settle("TouchAndSearchTest");
    }
}
