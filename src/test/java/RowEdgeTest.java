import java.util.ArrayList;
import java.util.List;

/** Each sentence about ROWS and METHODS that names a boundary, by itself; promises 14 to 35 and the terms they use. */
public final class RowEdgeTest extends Edge {
    /** A LEAD of all 24 ROWS of STAGE 4, ROUNDS the last of them. */
    private static final String WHOLE = "stage 4;method a" + times(" x 14 x 14 x 14 x 12", 3) + ";method b 1234;method c 1234 1234;"
            + "method d x x;";

    /** All ROWS of a STAGE in their order, as texts. */
    private static List<String> spelled(int stage) {
        List<String> all = new ArrayList<>();
        spell("", stays(stage), all);
        return all;
    }

    private static void spell(String done, String left, List<String> all) {
        if (left.isEmpty()) all.add(done);
        for (int i = 0; i < left.length(); i++) spell(done + left.charAt(i), left.substring(0, i) + left.substring(i + 1), all);
    }

    private static int numberOf(int stage, String row) { return spelled(stage).indexOf(row); }

    private static void put(RingChamber x, int tray, int sort, String row) {
        x.tray(tray, sort, row.length());
        for (int p = 0; p < row.length(); p++) x.write(tray, p, row.charAt(p) - '0');
    }

    // ---- ROWS

    private static void numbers() {
        term("The NUMBER of a ROW: its place (from 0) among all ROWS of the STAGE, by the BELL in place 1, then by that in place 2 .. ROUNDS, 1 2 3 .., is 0.");
        for (int stage = 4; stage <= 8; stage++) {
            List<String> all = spelled(stage);
            due("ROWS", all.size(), ROWS[stage]);
            int step = Math.max(1, all.size() / 97);
            for (int n = 0; n < all.size(); n += step) spelledAs(stage, all.get(n), n);
            spelledAs(stage, all.get(0), 0);
            spelledAs(stage, all.get(all.size() - 1), all.size() - 1);
        }

        says(14, "The BELL in a place (1 to STAGE) of a ROW (1).");
        rows("bell", (x, n) -> x.bell(n, 1));
        bells("place of bell", (x, n) -> x.bell(0, n));
        RingChamber x = with("stage 8;");
        fine(x, "the first of the last ROW", x.bell(40319, 1), 8);
        fine(x, "the last of the last ROW", x.bell(40319, 8), 1);
        refused(x, "both can't be", x.bell(-1, 0), 1);

        says(15, "(1; 2; 3; 5: no BELL, one again; asked in this order)");
        x = new RingChamber();
        for (int t : new int[] {-1, 4, LEAST, MOST}) refused(x, "TRAY " + t, x.number(t), 1);
        for (int t = 0; t < 4; t++) refused(x, "MISSING " + t, x.number(t), 2);
        x.tray(0, 0, 0);
        refused(x, "no numbers", x.number(0), 3);
        fill(x, 0, 0, 9, 9, 9);
        refused(x, "too few ahead of no BELL", x.number(0), 3);
        fill(x, 0, 0, 1, 1, 1);
        refused(x, "too few ahead of one again", x.number(0), 3);
        long[] none = {0, 5, -1, 127, -128};
        for (long v : none) for (int p = 0; p < 4; p++) {
            put(x, 0, 0, "1234");
            x.write(0, p, v);
            refused(x, v + " in place " + p, x.number(0), 5);
        }
        x = new RingChamber();
        for (long v : new long[] {(1L << 32) + 1, (1L << 32) + 4, Long.MIN_VALUE + 1, Long.MAX_VALUE}) {
            fill(x, 1, 3, v, 2, 3, 4);
            refused(x, "far off " + v, x.number(1), 5);
        }
        for (int p = 0; p < 4; p++) for (int q = 0; q < p; q++) {
            put(x, 2, 1, "4321");
            x.write(2, p, 4 - q);
            refused(x, "one again in place " + p, x.number(2), 5);
        }
        RingChamber five = with("stage 5;");
        put(five, 0, 0, "1234");
        refused(five, "as many as there are BELLS, not fewer", five.number(0), 3);
        put(five, 0, 0, "54321");
        fine(five, "just so many", five.number(0), 119);

        says(15, "The NUMBER of the ROW whose BELLS stand in a TRAY from its place 0 on");
        for (int sort = 0; sort < 4; sort++) {
            put(x, 3, sort, "4321");
            fine(x, "sort " + sort, x.number(3), 23);
        }
        fill(x, 0, 2, 2, 1, 3, 4, 4, -7);
        fine(x, "what stands behind does not count", x.number(0), 6);
        x.tray(0, 2, 60);
        refused(x, "60 of 0", x.number(0), 5);
        for (int p = 0; p < 4; p++) x.write(0, p, p + 1);
        fine(x, "60 numbers", x.number(0), 0);
    }

    private static void spelledAs(int stage, String row, int n) {
        RingChamber x = with("stage " + stage + ";");
        for (int p = 1; p <= stage; p++) fine(x, "BELL in place " + p + " of " + row, x.bell(n, p), row.charAt(p - 1) - '0');
        put(x, 0, 0, row);
        fine(x, "NUMBER of " + row, x.number(0), n);
    }

    private static void products() {
        term("PRODUCT of ROWS a, b: in place p stands the BELL of a that stands where b says: at place b(p) of a.");
        RingChamber x = new RingChamber();
        fine(x, "2341 by 2134", x.product(numberOf(4, "2341"), numberOf(4, "2134")), numberOf(4, "3241"));
        fine(x, "2134 by 2341", x.product(numberOf(4, "2134"), numberOf(4, "2341")), numberOf(4, "1342"));

        says(16, "PRODUCT (1).");
        rows("product, a", (y, n) -> y.product(n, 0));
        rows("product, b", (y, n) -> y.product(0, n));
        x = with("stage 8;");
        fine(x, "ROUNDS and ROUNDS", x.product(0, 0), 0);
        fine(x, "ROUNDS and the last", x.product(0, 40319), 40319);
        fine(x, "the last and ROUNDS", x.product(40319, 0), 40319);
        fine(x, "the last and itself", x.product(40319, 40319), 0);

        says(17, "INVERSE (1).");
        rows("inverse", (y, n) -> y.inverse(n));
        fine(x, "ROUNDS", x.inverse(0), 0);
        fine(x, "the last", x.inverse(40319), 40319);
        fine(x, "23456781", x.inverse(numberOf(8, "23456781")), numberOf(8, "81234567"));

        term("ORDER: how many of it, multiplied, make ROUNDS the first time (ROUNDS: 1).");
        fine(x, "ROUNDS", x.order(0), 1);
        fine(x, "two", x.order(1), 2);
        fine(x, "8", x.order(numberOf(8, "23456781")), 8);
        fine(x, "3 and 5", x.order(numberOf(8, "23156784")), 15);
        fine(x, "7", x.order(numberOf(8, "23456718")), 7);

        says(18, "ORDER (1).");
        rows("order", (y, n) -> y.order(n));
        fine(x, "the last", x.order(40319), 2);

        term("EVEN: made of ROUNDS by an even number of exchanges.");
        fine(x, "none", x.even(0), 1);
        fine(x, "one", x.even(1), 0);
        fine(x, "two", x.even(3), 1);
        fine(x, "two apart are one exchange", x.even(5), 0);

        says(19, "1 if a ROW is EVEN, else 0 (1).");
        rows("even", (y, n) -> y.even(n));
        int[] last = {0, 0, 0, 0, 1, 1, 0, 0, 1};
        for (int stage = 4; stage <= 8; stage++) {
            RingChamber y = with("stage " + stage + ";");
            fine(y, "the last of stage " + stage, y.even(ROWS[stage] - 1), last[stage]);
        }

        says(21, "POWER (n 0 to 99) (1).");
        rows("power", (y, n) -> y.power(n, 1));
        RingChamber eight = with("stage 8;");
        range(eight, "power", 0, 99, n -> eight.power(3, n));
        int turn = numberOf(8, "23456781");
        fine(eight, "0: ROUNDS", eight.power(turn, 0), 0);
        fine(eight, "1: itself", eight.power(turn, 1), turn);
        fine(eight, "8", eight.power(turn, 8), 0);
        fine(eight, "99 is 3", eight.power(turn, 99), numberOf(8, "45678123"));
        fine(eight, "ROUNDS", eight.power(0, 99), 0);
        refused(eight, "no ROW, though ROUNDS it would be", eight.power(40320, 0), 1);

        says(22, "CYCLES of a length (1 to STAGE) (1).");
        rows("cycles", (y, n) -> y.cycles(n, 1));
        bells("length of cycles", (y, n) -> y.cycles(0, n));
        for (int stage = 4; stage <= 8; stage++) {
            RingChamber y = with("stage " + stage + ";");
            fine(y, "ROUNDS: each place", y.cycles(0, 1), stage);
            fine(y, "ROUNDS: no other", y.cycles(0, stage), 0);
            int all = numberOf(stage, stays(stage).substring(1) + "1");
            fine(y, "one through all", y.cycles(all, stage), 1);
            fine(y, "none else", y.cycles(all, 1), 0);
            fine(y, "the last: pairs", y.cycles(ROWS[stage] - 1, 2), stage / 2);
            fine(y, "the last: the middle", y.cycles(ROWS[stage] - 1, 1), stage % 2);
        }

        says(23, "DISTANCE (1).");
        rows("distance, a", (y, n) -> y.distance(n, 0));
        rows("distance, b", (y, n) -> y.distance(0, n));
        for (int stage = 4; stage <= 8; stage++) {
            RingChamber y = with("stage " + stage + ";");
            fine(y, "none", y.distance(ROWS[stage] - 1, ROWS[stage] - 1), 0);
            fine(y, "the farthest", y.distance(0, ROWS[stage] - 1), stage * (stage - 1) / 2);
            fine(y, "and back", y.distance(ROWS[stage] - 1, 0), stage * (stage - 1) / 2);
            fine(y, "one", y.distance(1, 0), 1);
        }
    }

    private static void changesDone() {
        says(20, "The ROW behind a CHANGE, told by the PLACES of a NUMBER as in a BOOK (0: x) (1; 7: such PLACES can't be).");
        rows("done", (y, n) -> y.done(n, y.told(0) == 8 ? 12345678 : Integer.parseInt(stays(y.told(0)))));
        for (int stage = 4; stage <= 8; stage++) {
            int all = Integer.parseInt(stays(stage));
            RingChamber x = with("stage " + stage + ";");
            fine(x, "all stay in the last ROW", x.done(ROWS[stage] - 1, all), ROWS[stage] - 1);
            if (stage % 2 == 0) fine(x, "x", x.bell(x.done(0, 0), stage), stage - 1);
            else refused(x, "x of an odd STAGE", x.done(0, 0), 7);
            refused(x, "one place more", x.done(0, all * 10 + stage + 1), 7);
            refused(x, "no place", x.done(0, stage + 1), 7);
            for (int no : new int[] {10, 11, 21, 9, 120, 1220, -1, -12, -12345678, 123456789, LEAST, MOST})
                refused(x, "places " + no, x.done(0, no), 7);
            refused(x, "no ROW ahead of no PLACES", x.done(-1, -1), 1);
            refused(x, "no ROW ahead of no PLACES", x.done(ROWS[stage], 10), 1);
        }
        for (int stage = 4; stage <= 8; stage++) for (int set = 1; set < 1 << stage; set++) setDone(stage, set);
    }

    /** PLACES that can be are those with even gaps between; done twice, they lead back. */
    private static void setDone(int stage, int set) {
        int places = 0;
        int gap = 0;
        boolean can = true;
        for (int p = 1; p <= stage; p++) {
            if ((set >> p - 1 & 1) == 1) {
                can &= gap % 2 == 0;
                gap = 0;
                places = places * 10 + p;
            } else {
                gap++;
            }
        }
        can &= gap % 2 == 0;
        RingChamber x = with("stage " + stage + ";");
        int from = ROWS[stage] - 2;
        if (!can) {
            refused(x, "places " + places + " at stage " + stage, x.done(from, places), 7);
            return;
        }
        int to = x.done(from, places);
        due("STATUS of " + places, x.status(), 0);
        fine(x, places + " twice", x.done(to, places), from);
        for (int p = 1; p <= stage; p++) due(places + " stay " + p, x.bell(to, p) == x.bell(from, p), (set >> p - 1 & 1) == 1);
    }

    private static void between() {
        says(24, "BETWEEN: the NUMBER of its PLACES (0: x) (1; 7: none does).");
        rows("between, a", (y, n) -> y.between(n, 0));
        rows("between, b", (y, n) -> y.between(0, n));
        int[] places = {0, 12, 14, 34, 1234};
        for (int a = 0; a < 24; a++) {
            RingChamber x = new RingChamber();
            int[] to = new int[24];
            for (int i = 0; i < to.length; i++) to[i] = NONE;
            for (int p : places) to[x.done(a, p)] = p;
            for (int b = 0; b < 24; b++) {
                if (to[b] == NONE) refused(x, "none from " + a + " to " + b, x.between(a, b), 7);
                else fine(x, "from " + a + " to " + b, x.between(a, b), to[b]);
            }
        }
        for (int stage = 4; stage <= 8; stage++) {
            RingChamber x = with("stage " + stage + ";");
            fine(x, "a ROW and itself", x.between(ROWS[stage] - 1, ROWS[stage] - 1), Integer.parseInt(stays(stage)));
            refused(x, "backward", x.between(0, ROWS[stage] - 1), 7);
            refused(x, "no ROW ahead of none does", x.between(0, ROWS[stage]), 1);
        }
        RingChamber x = with("stage 8;");
        fine(x, "x", x.between(0, numberOf(8, "21436587")), 0);
        refused(x, "two apart", x.between(0, numberOf(8, "32145678")), 7);
        refused(x, "the first two, and two apart", x.between(0, numberOf(8, "21345876")), 7);
        refused(x, "a turn of three", x.between(0, numberOf(8, "23145678")), 7);
        refused(x, "a turn of four", x.between(0, numberOf(8, "23415678")), 7);
        refused(x, "pairs that are not neighbours", x.between(0, numberOf(8, "34125678")), 7);
    }

    private static void rowTerms() {
        RingChamber x = new RingChamber();
        term("INVERSE: the ROW whose PRODUCT with it is ROUNDS.");
        for (int r = 0; r < 24; r++) fine(x, "with its INVERSE", x.product(r, x.inverse(r)), 0);

        term("POWER n of a ROW: it, n times multiplied (0: ROUNDS).");
        fine(x, "0 of ROUNDS", x.power(0, 0), 0);
        fine(x, "0 of the last", x.power(23, 0), 0);
        fine(x, "1", x.power(9, 1), 9);
        fine(x, "2", x.power(9, 2), x.product(9, 9));
        fine(x, "3", x.power(9, 3), x.product(x.product(9, 9), 9));

        term("CYCLES of a ROW: of a place p it leads to the place of the BELL there, and so on till p comes again: how many such rounds there are of a length.");
        int[] three = {0, 1, 0, 1, 0};
        for (int n = 1; n <= 4; n++) fine(x, "1342, of " + n, x.cycles(3, n), three[n]);
        fine(x, "2143", x.cycles(7, 2), 2);

        term("DISTANCE of two ROWS: the fewest exchanges of neighbours that lead from one to the other.");
        fine(x, "none", x.distance(5, 5), 0);
        fine(x, "1432 and 1234", x.distance(5, 0), 3);
        fine(x, "2341 and 3241", x.distance(numberOf(4, "2341"), numberOf(4, "3241")), 1);
        fine(x, "2341 and 2431", x.distance(numberOf(4, "2341"), numberOf(4, "2431")), 1);
        fine(x, "2341 and 1342", x.distance(numberOf(4, "2341"), numberOf(4, "1342")), 5);

        term("BETWEEN two ROWS: the CHANGE that leads from the first to the second.");
        fine(x, "itself", x.between(23, 23), 1234);
        fine(x, "x", x.between(23, x.done(23, 0)), 0);
        refused(x, "none", x.between(23, 0), 7);
    }

    // ---- METHODS

    private static void methodTerms() {
        String book = "stage 4;method a x 14 bob 1234 single 34;method b 1234;";
        RingChamber x = with(book);
        term("HEAD of a METHOD with a call (0 plain, 1 bob, 2 single): the ROW behind a LEAD from ROUNDS.");
        fine(x, "plain", x.head(0, 0), numberOf(4, "2413"));
        fine(x, "bob", x.head(0, 1), numberOf(4, "2143"));
        fine(x, "single", x.head(0, 2), numberOf(4, "1243"));

        term("From any ROW a, a LEAD leads to the PRODUCT of a and HEAD.");
        x = rung(book, "plain a;single a;bob a;");
        fine(x, "ROUNDS", x.rowAt(2), x.product(0, x.head(0, 0)));
        fine(x, "from there", x.rowAt(4), x.product(x.rowAt(2), x.head(0, 2)));
        fine(x, "and from there", x.rowAt(6), x.product(x.rowAt(4), x.head(0, 1)));

        term("COURSE: how many such LEADS it takes to come to ROUNDS.");
        fine(x, "4", x.course(0, 0), 4);
        fine(x, "2", x.course(0, 1), 2);
        fine(x, "1, though no ROW is another", x.course(1, 0), 1);

        term("FIXED: the set of BELLS (1 for BELL 1, 2 for 2, 4 for 3 ..) that stand in the HEAD where they stand in ROUNDS.");
        fine(x, "none", x.fixed(0, 0), 0);
        fine(x, "1 and 2", x.fixed(0, 2), 3);
        fine(x, "all", x.fixed(1, 0), 15);

        term("SYMMETRIC: the CHANGES of a plain LEAD but the last, read backward, are the same.");
        x = with("stage 4;method a x;method b 14 x;method c 14 x 14;method d 14 x 14 x bob 12;");
        int[] symmetric = {1, 1, 0, 1};
        for (int m = 0; m < 4; m++) fine(x, "method " + m, x.symmetric(m), symmetric[m]);

        term("FALSE against a METHOD (its LEAD begun with ROUNDS) are ROWS with which a LEAD of it may begin so that both have a ROW together; but ROUNDS itself.");
        x = with("stage 4;method a x 14 bob 1234;");
        // 2143 2413: 4231 leads to 2413 3142 .. by x, the bob's 2143 does not count
        for (int r = 0; r < 24; r++) fine(x, "ROW " + r, x.falseAgainst(0, r), r == numberOf(4, "4231") ? 1 : 0);
        fine(x, "how many", x.falses(0), 1);
    }

    private static void leads() {
        says(25, "How many CHANGES a LEAD has (1).");
        methods("changes", (x, n) -> x.changes(n));
        RingChamber x = with("stage 4;method a x;method b" + times(" x", 32) + ";method c" + times(" x", 16) + " back x;method d x back x;");
        int[] lengths = {1, 32, 32, 2};
        for (int m = 0; m < 4; m++) fine(x, "method " + m, x.changes(m), lengths[m]);

        says(26, "The k-th CHANGE (from 0) of a LEAD with a call, as the NUMBER of its PLACES (0: x) (1).");
        methods("change", (y, n) -> y.change(n, 0, 0));
        calls("change", (y, n) -> y.change(0, n, 0));
        for (int m = 0; m < 4; m++) {
            int method = m;
            RingChamber y = with("stage 4;method a x;method b" + times(" x", 32) + ";method c" + times(" x", 16) + " back x;method d x back x;");
            range(y, "k of method " + m, 0, lengths[m] - 1, k -> y.change(method, 2, k));
        }
        x = with("stage 8;method a 12345678 x bob 18;");
        fine(x, "all stay", x.change(0, 1, 0), 12345678);
        fine(x, "x", x.change(0, 0, 1), 0);
        fine(x, "the last, with a bob", x.change(0, 1, 1), 18);
        fine(x, "the last, with a single that isn't told", x.change(0, 2, 1), 0);

        says(27, "HEAD (1).");
        methods("head", (y, n) -> y.head(n, 0));
        calls("head", (y, n) -> y.head(0, n));
        x = with(WHOLE);
        fine(x, "ROUNDS behind 24 CHANGES", x.head(0, 0), 0);
        fine(x, "ROUNDS behind one", x.head(1, 0), 0);
        x = with("stage 4;method a x bob 14 single 12;");
        int[] heads = {7, 2, 1};
        for (int c = 0; c < 3; c++) fine(x, "of one CHANGE, with call " + c, x.head(0, c), heads[c]);

        says(28, "COURSE (1).");
        methods("course", (y, n) -> y.course(n, 0));
        calls("course", (y, n) -> y.course(0, n));
        x = with(WHOLE);
        fine(x, "ROUNDS at once", x.course(0, 0), 1);
        x = with("stage 8;method a x 18;method b x 18 x 1238 x 12 x 1278 x 123678;");
        fine(x, "8", x.course(0, 0), 8);
        due("as its HEAD's ORDER", x.course(1, 0), x.order(x.head(1, 0)));

        says(29, "FIXED: a set (1).");
        methods("fixed", (y, n) -> y.fixed(n, 0));
        calls("fixed", (y, n) -> y.fixed(0, n));
        x = with("stage 8;method a 12345678 bob x single 18;");
        fine(x, "all", x.fixed(0, 0), 255);
        fine(x, "none", x.fixed(0, 1), 0);
        fine(x, "the first and the last", x.fixed(0, 2), 129);

        says(30, "1 if it is SYMMETRIC, else 0 (1).");
        methods("symmetric", (y, n) -> y.symmetric(n));
        x = with("stage 4;method a x;method b x 14;method c x 14 12;method d x 14 x 12;");
        int[] symmetric = {1, 1, 0, 1};
        for (int m = 0; m < 4; m++) fine(x, (m + 1) + " CHANGES", x.symmetric(m), symmetric[m]);
        x = with("stage 4;method a" + times(" x", 30) + " 14 x;method b 14" + times(" x", 31) + ";method c 14" + times(" x", 29)
                + " 14 x;method d x 14 bob 12 single 34;");
        int[] far = {0, 0, 1, 1};
        for (int m = 0; m < 4; m++) fine(x, "32 CHANGES " + m, x.symmetric(m), far[m]);
    }

    private static void falseness() {
        says(31, "1 if the ROWS of a plain LEAD from ROUNDS are unlike one another, else 0 (1).");
        methods("leadTrue", (y, n) -> y.leadTrue(n));
        RingChamber x = with(WHOLE);
        int[] good = {1, 1, 0, 1};
        for (int m = 0; m < 4; m++) fine(x, "method " + m, x.leadTrue(m), good[m]);
        x = with("stage 4;method a" + times(" x 14 x 14 x 14 x 12", 3) + " x;method b" + times(" x 14", 4)
                + ";method c 14" + times(" x 14", 4) + ";method d x 14 bob x;");
        int[] last = {0, 1, 0, 1};
        for (int m = 0; m < 4; m++) fine(x, "the last alone, method " + m, x.leadTrue(m), last[m]);
        x = with("stage 4;method a x x 14;method b x 14 14;method c x x x;method d x 14 14 bob 12;");
        int[] within = {1, 0, 0, 0};
        for (int m = 0; m < 4; m++) fine(x, "ROUNDS within, or a ROW again, method " + m, x.leadTrue(m), within[m]);

        term("Of a LEAD, begun with a ROW, its ROWS are the ROW behind each CHANGE, with plain.");
        x = with("stage 4;method a x bob 14;");
        refused(x, "the ROW ahead of the first CHANGE is none of them", x.inLead(0, 0), 6);
        refused(x, "nor is that behind a bob", x.inLead(0, 2), 6);
        fine(x, "that behind the CHANGE is", x.inLead(0, 7), 1);
        fine(x, "so ROWS that lead to it or from it are not FALSE", x.falseAgainst(0, 7), 0);

        says(32, "1 if a ROW is FALSE against a METHOD, else 0 (1).");
        methods("falseAgainst", (y, n) -> y.falseAgainst(n, 0));
        rows("falseAgainst", (y, n) -> y.falseAgainst(0, n));
        x = with(WHOLE);
        for (int r = 1; r < 24; r++) fine(x, "the whole: ROW " + r, x.falseAgainst(0, r), 1);
        for (int r = 0; r < 24; r++) fine(x, "one ROW alone: ROW " + r, x.falseAgainst(1, r), 0);
        for (int r = 0; r < 24; r++) fine(x, "x x: ROW " + r, x.falseAgainst(3, r), r == 7 ? 1 : 0);
        // 2143 2413 4231: 2413 leads to 4231 by its first CHANGE alone, 3142 to 2143 by its last alone
        RingChamber three = with("stage 4;method a x 14 x;");
        fine(three, "by the first ROW alone", three.falseAgainst(0, 10), 1);
        fine(three, "by the last ROW alone", three.falseAgainst(0, 13), 1);
        fine(three, "by none", three.falseAgainst(0, 1), 0);

        term("so that both have a ROW together; but ROUNDS itself.");
        for (int m = 0; m < 4; m++) fine(x, "ROUNDS", x.falseAgainst(m, 0), 0);

        says(33, "How many ROWS are FALSE against a METHOD (1).");
        methods("falses", (y, n) -> y.falses(n));
        int[] many = {23, 0, 0, 1};
        for (int m = 0; m < 4; m++) fine(x, "method " + m, x.falses(m), many[m]);
        for (int stage = 4; stage <= 8; stage++) {
            RingChamber y = with("stage " + stage + ";method a " + stays(stage) + ";method b " + stays(stage).substring(2) + " "
                    + stays(stage).substring(2) + ";");
            fine(y, "none", y.falses(0), 0);
            fine(y, "one", y.falses(1), 1);
            fine(y, "none again", y.falses(0), 0);
        }
    }

    private static void ways() {
        says(34, "How many plain LEADS lead from ROUNDS to a ROW, the fewest (0: ROUNDS) (1; 6: none do).");
        methods("leadsTo", (y, n) -> y.leadsTo(n, 0));
        rows("leadsTo", (y, n) -> y.leadsTo(0, n));
        RingChamber x = with(WHOLE);
        fine(x, "ROUNDS, though a LEAD leads there", x.leadsTo(0, 0), 0);
        for (int r = 1; r < 24; r++) refused(x, "none", x.leadsTo(0, r), 6);
        x = with("stage 8;method a x 18 bob 1278;");
        int at = 0;
        for (int n = 0; n < 8; n++) {
            fine(x, n + " LEADS", x.leadsTo(0, at), n);
            at = x.product(at, x.head(0, 0));
        }
        due("the COURSE's end", at, 0);
        refused(x, "the bob's HEAD", x.leadsTo(0, x.head(0, 1)), 6);
        refused(x, "no METHOD", x.leadsTo(1, 0), 1);

        says(35, "Behind which CHANGE of a plain LEAD from ROUNDS (from 1 on) a ROW is there first (1; 6).");
        methods("inLead", (y, n) -> y.inLead(n, 0));
        rows("inLead", (y, n) -> y.inLead(0, n));
        x = with(WHOLE);
        fine(x, "ROUNDS the last of 24", x.inLead(0, 0), 24);
        fine(x, "the first", x.inLead(0, 7), 1);
        fine(x, "of one", x.inLead(1, 0), 1);
        fine(x, "first of two", x.inLead(2, 0), 1);
        refused(x, "none such", x.inLead(1, 1), 6);
        x = with("stage 4;method a x 14 bob 12;");
        refused(x, "ROUNDS is not behind a CHANGE", x.inLead(0, 0), 6);
        refused(x, "the bob's HEAD", x.inLead(0, x.head(0, 1)), 6);
        fine(x, "the last", x.inLead(0, x.head(0, 0)), 2);
        x = with("stage 4;method a" + times(" x", 31) + " 14;");
        fine(x, "the last of 32", x.inLead(0, x.head(0, 0)), 32);
        fine(x, "first of many", x.inLead(0, 7), 1);
        fine(x, "ROUNDS within", x.inLead(0, 0), 2);
    }

    public static void main(String[] args) {
        numbers();
        products();
        changesDone();
        between();
        rowTerms();
        methodTerms();
        leads();
        falseness();
        ways();
        settle("RowEdgeTest", 14, 35);
    }
}
