/** What the tests of the promises share: an answer held against the one that is due. */
class Due {
    static final int NONE = RingChamber.NONE;
    static final String MINIMUS =
            "stage 4;method plainb x 14 x 14 back 12 bob 14 single 1234;ringer u 1;ringer v 2;ringer w 4;";
    static final String MINOR =
            "stage 6;method pb x 16 x 16 x 16 back 12 bob 14 single 1234;method one 16;";

    static int wrong = 0;
    static int asked = 0;
    static int promise = 0;

    static void due(String what, long got, long want) {
        asked++;
        if (got != want) {
            wrong++;
            System.out.println("promise " + promise + ": " + what + " answered " + got + ", due is " + want);
        }
    }

    static void due(String what, boolean got, boolean want) { due(what, got ? 1 : 0, want ? 1 : 0); }

    static void refused(RingChamber x, String what, long got, int status) {
        due(what, got, NONE);
        due(what + " status", x.status(), status);
    }

    static void denied(RingChamber x, String what, boolean got, int status) {
        due(what, got, false);
        due(what + " status", x.status(), status);
    }

    static void fine(RingChamber x, String what, long got, long want) {
        due(what, got, want);
        due(what + " status", x.status(), 0);
    }

    static void done(RingChamber x, String what, boolean got) {
        due(what, got, true);
        due(what + " status", x.status(), 0);
    }

    static RingChamber with(String book) {
        RingChamber x = new RingChamber();
        if (Texts.book(x, book) < 0) due("a book that is taken: " + book, 0, 1);
        return x;
    }

    static RingChamber rung(String book, String touch) {
        RingChamber x = with(book);
        if (Texts.touch(x, touch) < 0) due("a touch that is taken: " + touch, 0, 1);
        x.ring();
        return x;
    }

    static void fill(RingChamber x, int tray, int sort, long... numbers) {
        x.tray(tray, sort, numbers.length);
        for (int i = 0; i < numbers.length; i++) x.write(tray, i, numbers[i]);
    }

    static String times(String text, int n) {
        StringBuilder s = new StringBuilder();
        for (int i = 0; i < n; i++) s.append(text);
        return s.toString();
    }

    static void settle(String test) {
        System.out.println(test + ": " + asked + " answers, " + wrong + " wrong");
        if (wrong > 0) System.exit(1);
    }
}
