/** Promises 14 to 35, each by itself: ordinary inputs, the edges the document names, and wrong inputs. */
public final class RowAndMethodTest extends Due {
    private static final String EIGHT = "stage 8;";
    /** Its rows are 2143 and 2413. */
    private static final String SHORT = "stage 4;method a x 14;method b x x x;method c x x;";
    private static final int LEAST = Integer.MIN_VALUE;
    private static final int MOST = Integer.MAX_VALUE;

    // ---- 14 to 24

    private static void bell() {
        promise = 14;
        RingChamber x = with(EIGHT);
        for (int p = 1; p <= 8; p++) {
            fine(x, "rounds", x.bell(0, p), p);
            fine(x, "the last row", x.bell(40319, p), 9 - p);
        }
        fine(x, "21345678", x.bell(5040, 1), 2);
        fine(x, "21345678", x.bell(5040, 2), 1);
        refused(x, "row", x.bell(40320, 1), 1);
        refused(x, "row", x.bell(-1, 1), 1);
        refused(x, "place", x.bell(0, 0), 1);
        refused(x, "place", x.bell(0, 9), 1);
        refused(x, "place", x.bell(LEAST, MOST), 1);
    }

    private static void number() {
        promise = 15;
        RingChamber x = new RingChamber();
        refused(x, "no tray", x.number(4), 1);
        refused(x, "no tray", x.number(-1), 1);
        refused(x, "missing", x.number(0), 2);
        fill(x, 0, 0, 0, 9, 1);
        refused(x, "too few ahead of no bell", x.number(0), 3);
        fill(x, 0, 3, 1, 4, 2, 3, 99);
        fine(x, "1423", x.number(0), 4);
        fill(x, 0, 3, 1, 4, 2, 5);
        refused(x, "no bell", x.number(0), 5);
        fill(x, 0, 3, 1, 0, 2, 3);
        refused(x, "no bell", x.number(0), 5);
        fill(x, 0, 3, 1, (1L << 32) + 2, 3, 4);
        refused(x, "no bell", x.number(0), 5);
        fill(x, 0, 1, 1, 2, 4, 2);
        refused(x, "one again", x.number(0), 5);
        fill(x, 0, 0, 4, 3, 2, 1);
        fine(x, "4321", x.number(0), 23);
    }

    private static void product() {
        promise = 16;
        RingChamber x = new RingChamber();
        fine(x, "1342 by itself", x.product(3, 3), 4);
        fine(x, "1342 by 1324", x.product(3, 2), 5);
        fine(x, "1324 by 1342", x.product(2, 3), 1);
        fine(x, "rounds", x.product(0, 17), 17);
        refused(x, "row", x.product(24, 0), 1);
        refused(x, "row", x.product(0, -1), 1);
    }

    private static void inverse() {
        promise = 17;
        RingChamber x = with("stage 5;");
        for (int r = 0; r < 120; r++) {
            int i = x.inverse(r);
            fine(x, "with its inverse", x.product(r, i), 0);
        }
        refused(x, "row", x.inverse(120), 1);
        refused(x, "row", x.inverse(-1), 1);
    }

    private static void order() {
        promise = 18;
        RingChamber x = with(EIGHT);
        fill(x, 0, 0, 2, 3, 1, 5, 6, 7, 8, 4);
        fine(x, "rounds", x.order(0), 1);
        fine(x, "3 and 5", x.order(x.number(0)), 15);
        fine(x, "backward", x.order(40319), 2);
        refused(x, "row", x.order(40320), 1);
        refused(x, "row", x.order(-1), 1);
    }

    private static void even() {
        promise = 19;
        RingChamber x = new RingChamber();
        int[] parities = {1, 0, 0, 1, 1, 0};
        for (int r = 0; r < 6; r++) fine(x, "even", x.even(r), parities[r]);
        fine(x, "4321", x.even(23), 1);
        refused(x, "row", x.even(24), 1);
        refused(x, "row", x.even(-1), 1);
    }

    private static void done() {
        promise = 20;
        RingChamber x = with("stage 5;");
        refused(x, "x of five", x.done(0, 0), 7);
        fine(x, "5: 21435", x.done(0, 5), 24 + 2);
        fine(x, "1: 13254", x.done(0, 1), 6 + 1);
        fine(x, "123", x.done(0, 123), 1);
        fine(x, "all", x.done(77, 12345), 77);
        refused(x, "15: three left", x.done(0, 15), 7);
        refused(x, "6", x.done(0, 6), 7);
        refused(x, "51", x.done(0, 51), 7);
        refused(x, "10", x.done(0, 10), 7);
        refused(x, "11", x.done(0, 11), 7);
        refused(x, "below 0", x.done(0, -5), 7);
        refused(x, "below 0", x.done(0, LEAST), 7);
        refused(x, "long", x.done(0, MOST), 7);
        refused(x, "row first", x.done(120, 0), 1);
        x = with(EIGHT);
        fine(x, "x: 21436587", x.done(0, 0), 5040 + 120 + 6 + 1);
    }

    private static void power() {
        promise = 21;
        RingChamber x = new RingChamber();
        fine(x, "0", x.power(17, 0), 0);
        fine(x, "1", x.power(17, 1), 17);
        fine(x, "2", x.power(3, 2), 4);
        fine(x, "98", x.power(3, 98), 4);
        fine(x, "99", x.power(1, 99), 1);
        refused(x, "100", x.power(1, 100), 1);
        refused(x, "-1", x.power(1, -1), 1);
        refused(x, "row", x.power(24, 1), 1);
    }

    private static void cycles() {
        promise = 22;
        RingChamber x = with(EIGHT);
        fill(x, 0, 0, 2, 3, 1, 5, 4, 7, 6, 8);
        int r = x.number(0);
        int[] many = {0, 1, 2, 1, 0, 0, 0, 0, 0};
        for (int n = 1; n <= 8; n++) fine(x, "of " + n, x.cycles(r, n), many[n]);
        fine(x, "rounds", x.cycles(0, 1), 8);
        refused(x, "length", x.cycles(0, 0), 1);
        refused(x, "length", x.cycles(0, 9), 1);
        refused(x, "row", x.cycles(40320, 1), 1);
    }

    private static void distance() {
        promise = 23;
        RingChamber x = with(EIGHT);
        fine(x, "backward", x.distance(0, 40319), 28);
        fine(x, "itself", x.distance(777, 777), 0);
        fine(x, "one", x.distance(x.done(777, 123456), 777), 1);
        fine(x, "four", x.distance(777, x.done(777, 0)), 4);
        refused(x, "row", x.distance(0, 40320), 1);
        refused(x, "row", x.distance(-1, 0), 1);
    }

    private static void between() {
        promise = 24;
        RingChamber x = with("stage 6;");
        int[] places = {0, 16, 12, 14, 1234, 3456, 123456, 36, 56};
        for (int p : places) {
            int to = x.done(321, p);
            fine(x, "between", x.between(321, to), p);
            fine(x, "and back", x.between(to, 321), p);
        }
        refused(x, "two changes", x.between(0, 719), 7);
        refused(x, "a turn", x.between(0, 3), 7);
        refused(x, "row", x.between(720, 0), 1);
        refused(x, "row", x.between(0, -1), 1);
    }

    // ---- 25 to 35

    private static void changes() {
        promise = 25;
        RingChamber x = with(MINOR);
        fine(x, "with back", x.changes(0), 12);
        fine(x, "one", x.changes(1), 1);
        refused(x, "method", x.changes(2), 1);
        refused(x, "method", x.changes(-1), 1);
    }

    private static void change() {
        promise = 26;
        RingChamber x = with(MINOR);
        for (int call = 0; call < 3; call++) {
            for (int k = 0; k < 11; k++) fine(x, "change", x.change(0, call, k), k % 2 == 0 ? 0 : 16);
        }
        fine(x, "plain", x.change(0, 0, 11), 12);
        fine(x, "bob", x.change(0, 1, 11), 14);
        fine(x, "single", x.change(0, 2, 11), 1234);
        fine(x, "without a bob", x.change(1, 1, 0), 16);
        fine(x, "without a single", x.change(1, 2, 0), 16);
        refused(x, "k", x.change(0, 0, 12), 1);
        refused(x, "k", x.change(0, 0, -1), 1);
        refused(x, "call", x.change(0, 3, 0), 1);
        refused(x, "call", x.change(0, -1, 0), 1);
        refused(x, "method", x.change(2, 0, 0), 1);
    }

    private static void heads() {
        RingChamber x = with(MINOR);
        promise = 27;
        fine(x, "plain: 135264", x.head(0, 0), 37);
        fine(x, "bob: 123564", x.head(0, 1), 3);
        fine(x, "single: 132564", x.head(0, 2), 27);
        fine(x, "132546", x.head(1, 2), 26);
        refused(x, "method", x.head(2, 0), 1);
        refused(x, "call", x.head(0, 3), 1);
        promise = 28;
        fine(x, "plain", x.course(0, 0), 5);
        fine(x, "bob", x.course(0, 1), 3);
        fine(x, "single", x.course(0, 2), 6);
        fine(x, "one", x.course(1, 0), 2);
        refused(x, "method", x.course(-1, 0), 1);
        refused(x, "call", x.course(0, -1), 1);
        due("rounds at once", with(MINIMUS).course(0, 1), 1);
        promise = 29;
        fine(x, "plain", x.fixed(0, 0), 1);
        fine(x, "bob", x.fixed(0, 1), 7);
        fine(x, "single", x.fixed(0, 2), 1);
        fine(x, "one", x.fixed(1, 0), 33);
        refused(x, "method", x.fixed(2, 0), 1);
        refused(x, "call", x.fixed(0, 3), 1);
    }

    private static void symmetric() {
        promise = 30;
        RingChamber x = with("stage 4;method a x 14 x 14 back 12;method b x 14 12;method c 12;method d 12 12 x;");
        fine(x, "back", x.symmetric(0), 1);
        fine(x, "not", x.symmetric(1), 0);
        fine(x, "one change", x.symmetric(2), 1);
        fine(x, "the last one does not count", x.symmetric(3), 1);
        refused(x, "method", x.symmetric(4), 1);
        refused(x, "method", x.symmetric(-1), 1);
    }

    private static void falseness() {
        RingChamber x = with(SHORT);
        promise = 31;
        fine(x, "two rows", x.leadTrue(0), 1);
        fine(x, "the third is the first", x.leadTrue(1), 0);
        fine(x, "rounds at the end", x.leadTrue(2), 1);
        refused(x, "method", x.leadTrue(3), 1);
        promise = 32;
        fine(x, "4231 comes to 2413 by x", x.falseAgainst(0, 21), 1);
        fine(x, "the head", x.falseAgainst(0, 10), 0);
        fine(x, "rounds itself", x.falseAgainst(0, 0), 0);
        fine(x, "2143 comes to rounds", x.falseAgainst(2, 7), 1);
        fine(x, "3142 does not", x.falseAgainst(2, 13), 0);
        refused(x, "row", x.falseAgainst(0, 24), 1);
        refused(x, "method", x.falseAgainst(3, 0), 1);
        promise = 33;
        fine(x, "4231 alone", x.falses(0), 1);
        fine(x, "2143 alone", x.falses(1), 1);
        due("minimus", with(MINIMUS).falses(0), 17);
        refused(x, "method", x.falses(3), 1);
        // an object is asked at most 512 times, so two of them are asked for all 720 rows
        RingChamber low = with(MINOR);
        RingChamber high = with(MINOR);
        int many = 0;
        for (int r = 0; r < 360; r++) many += low.falseAgainst(0, r) + high.falseAgainst(0, r + 360);
        due("as many as one by one", with(MINOR).falses(0), many);
    }

    private static void leads() {
        RingChamber x = with(MINOR);
        promise = 34;
        int at = 0;
        for (int n = 0; n < 5; n++) {
            fine(x, "leads", x.leadsTo(0, at), n);
            at = x.product(at, 37);
        }
        refused(x, "none do", x.leadsTo(0, 1), 6);
        refused(x, "row", x.leadsTo(0, 720), 1);
        refused(x, "method", x.leadsTo(2, 0), 1);
        promise = 35;
        fine(x, "214365", x.inLead(0, x.done(0, 0)), 1);
        fine(x, "the head", x.inLead(0, 37), 12);
        refused(x, "rounds", x.inLead(0, 0), 6);
        refused(x, "the bob's head", x.inLead(0, 3), 6);
        refused(x, "row", x.inLead(0, -1), 1);
        refused(x, "method", x.inLead(-1, 0), 1);
        x = with(SHORT);
        fine(x, "first", x.inLead(1, 7), 1);
        fine(x, "rounds within", x.inLead(1, 0), 2);
    }

    public static void main(String[] args) {
        bell();
        number();
        product();
        inverse();
        order();
        even();
        done();
        power();
        cycles();
        distance();
        between();
        changes();
        change();
        heads();
        symmetric();
        falseness();
        leads();
        settle("RowAndMethodTest");
    }
}
