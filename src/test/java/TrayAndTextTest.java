/** Promises 1 to 13, each by itself: ordinary inputs, the edges the document names, and wrong inputs. */
public final class TrayAndTextTest extends Due {
    private static void bookFault(String text, int kind, int place) {
        RingChamber x = new RingChamber();
        refused(x, "book " + text, Texts.book(x, text), 9);
        due("fault of " + text, x.fault(0), kind);
        due("place in " + text, x.fault(1), place);
        due("the old stage", x.told(0), 4);
    }

    private static void touchFault(String text, int kind, int place) {
        RingChamber x = with(MINIMUS);
        refused(x, "touch " + text, Texts.touch(x, text), 9);
        due("fault of " + text, x.fault(0), kind);
        due("place in " + text, x.fault(1), place);
        refused(x, "told(4)", x.told(4), 6);
    }

    // ---- 1 to 4

    private static void newObject() {
        promise = 1;
        due("NONE", RingChamber.NONE, -1);
        RingChamber x = new RingChamber();
        due("status()", x.status(), 0);
        due("top()", x.top(), 0);
        due("bottom()", x.bottom(), 1);
        fine(x, "told(0)", x.told(0), 4);
        fine(x, "told(1)", x.told(1), 0);
        fine(x, "told(2)", x.told(2), 24);
        fine(x, "told(3)", x.told(3), 15);
        refused(x, "told(4)", x.told(4), 6);
        refused(x, "told(5)", x.told(5), 6);
        refused(x, "ring()", x.ring(), 6);
        refused(x, "back()", x.back(), 6);
        refused(x, "wayAt", x.wayAt(0, 0), 6);
        refused(x, "callAt", x.callAt(0), 6);
        refused(x, "changes", x.changes(0), 1);
        for (int t = 0; t < 4; t++) refused(x, "read", x.read(t, 0), 2);
        refused(x, "an empty tape", x.book(1), 1);
        due("feed", x.feed(1, 2, 3, 4, 5), 20);
    }

    private static void status() {
        promise = 2;
        RingChamber x = new RingChamber();
        x.bell(24, 1);
        due("status()", x.status(), 1);
        due("again", x.status(), 1);
        x.feed(0, 0, 0, 0, 0);
        x.fault(0);
        x.top();
        x.bottom();
        due("calls without a status leave it", x.status(), 1);
        x.extent();
        due("status()", x.status(), 0);
    }

    private static void fraction() {
        promise = 3;
        RingChamber x = rung(MINIMUS, "plain plainb;");
        done(x, "evens()", x.evens());
        due("top()", x.top(), 1);
        promise = 4;
        due("bottom()", x.bottom(), 2);
        Texts.touch(x, "");
        x.ring();
        denied(x, "evens()", x.evens(), 6);
        due("a refused call leaves it", x.bottom(), 2);
        promise = 3;
        due("a refused call leaves it", x.top(), 1);
    }

    // ---- 5 to 8

    private static void tray() {
        promise = 5;
        RingChamber x = new RingChamber();
        denied(x, "tray -1", x.tray(-1, 0, 1), 1);
        denied(x, "tray 4", x.tray(4, 0, 1), 1);
        denied(x, "sort -1", x.tray(0, -1, 1), 1);
        denied(x, "sort 4", x.tray(0, 4, 1), 1);
        denied(x, "many -1", x.tray(0, 0, -1), 1);
        denied(x, "many 61", x.tray(0, 0, 61), 1);
        refused(x, "still missing", x.read(0, 0), 2);
        done(x, "many 60", x.tray(3, 3, 60));
        fine(x, "read", x.read(3, 59), 0);
        refused(x, "read", x.read(3, 60), 3);
        x.write(3, 0, 7);
        done(x, "many 0", x.tray(3, 0, 0));
        refused(x, "read", x.read(3, 0), 3);
        done(x, "again", x.tray(3, 0, 1));
        fine(x, "0s", x.read(3, 0), 0);
    }

    private static void write() {
        promise = 6;
        RingChamber x = new RingChamber();
        denied(x, "no tray", x.write(4, 0, 1), 1);
        denied(x, "no tray", x.write(-1, 0, 1), 1);
        denied(x, "missing", x.write(0, -1, 1), 2);
        for (int sort = 0; sort < 4; sort++) x.tray(sort, sort, 2);
        denied(x, "no place", x.write(0, 2, 1), 3);
        denied(x, "no place", x.write(0, -1, 1), 3);
        long v = 0x1234567890abcdefL;
        for (int sort = 0; sort < 4; sort++) done(x, "write", x.write(sort, 1, v));
        due("8 bits", x.read(0, 1), (byte) 0xef);
        due("16 bits", x.read(1, 1), (short) 0xcdef);
        due("32 bits", x.read(2, 1), 0x90abcdef);
        due("64 bits", x.read(3, 1), v);
        x.write(0, 0, 127);
        due("8 bits", x.read(0, 0), 127);
        x.write(0, 0, 128);
        due("8 bits", x.read(0, 0), -128);
        x.write(2, 0, 1L << 32);
        due("32 bits", x.read(2, 0), 0);
    }

    private static void read() {
        promise = 7;
        RingChamber x = new RingChamber();
        refused(x, "no tray", x.read(4, 0), 1);
        refused(x, "no tray", x.read(Integer.MIN_VALUE, 0), 1);
        refused(x, "missing", x.read(2, 0), 2);
        fill(x, 2, 1, 5, -1, 7);
        fine(x, "read", x.read(2, 0), 5);
        fine(x, "-1 that stands there", x.read(2, 1), -1);
        fine(x, "read", x.read(2, 2), 7);
        refused(x, "no place", x.read(2, 3), 3);
        refused(x, "no place", x.read(2, -1), 3);
        refused(x, "no place", x.read(2, Integer.MAX_VALUE), 3);
    }

    private static void pour() {
        promise = 8;
        RingChamber x = new RingChamber();
        fill(x, 0, 2, 1, 2, 3, 4, 5);
        fill(x, 1, 2, 0, 0, 0);
        fill(x, 2, 1, 0, 0, 0);
        denied(x, "no tray", x.pour(4, 0, 0, 0, 1), 1);
        denied(x, "no tray", x.pour(0, 0, -1, 0, 1), 1);
        denied(x, "below 0 ahead of missing", x.pour(0, -1, 3, 0, 1), 1);
        denied(x, "below 0", x.pour(0, 0, 1, -1, 1), 1);
        denied(x, "below 0", x.pour(0, 0, 1, 0, -1), 1);
        denied(x, "missing", x.pour(3, 0, 0, 0, 1), 2);
        denied(x, "missing", x.pour(0, 0, 3, 9, 1), 2);
        denied(x, "unlike ahead of too few", x.pour(0, 0, 2, 9, 1), 8);
        denied(x, "too few", x.pour(0, 3, 1, 0, 3), 3);
        denied(x, "too few", x.pour(0, 0, 1, 1, 3), 3);
        denied(x, "too few", x.pour(0, Integer.MAX_VALUE, 1, 0, Integer.MAX_VALUE), 3);
        done(x, "pour", x.pour(0, 2, 1, 1, 2));
        due("left", x.read(1, 0), 0);
        due("poured", x.read(1, 1), 3);
        due("poured", x.read(1, 2), 4);
        done(x, "none", x.pour(0, 0, 1, 0, 0));
        done(x, "into itself, up", x.pour(0, 0, 0, 1, 4));
        long[] up = {1, 1, 2, 3, 4};
        for (int i = 0; i < 5; i++) due("as they were", x.read(0, i), up[i]);
        done(x, "into itself, down", x.pour(0, 2, 0, 0, 3));
        long[] down = {2, 3, 4, 3, 4};
        for (int i = 0; i < 5; i++) due("as they were", x.read(0, i), down[i]);
    }

    // ---- 9 to 13

    private static void feed() {
        promise = 9;
        RingChamber x = new RingChamber();
        for (int i = 1; i <= 45; i++) due("feed", x.feed(0, 0, 0, 0, 0), 20 * i);
        due("more than 900", x.feed(0, 0, 0, 0, 0), NONE);
        due("no status", x.status(), 0);
        refused(x, "all 900 are there", x.book(901), 1);
        refused(x, "zeros begin no token", x.book(900), 9);
        due("empty", x.feed(0x73746167, 0x6520363b, 0x20202020, 0x20202020, 0x20202020), 20);
        fine(x, "the highest of each int first", x.book(20), 0);
        due("stage", x.told(0), 6);
    }

    private static void book() {
        promise = 10;
        RingChamber x = new RingChamber();
        Texts.feed(x, "stage 5;");
        refused(x, "below 0", x.book(-1), 1);
        refused(x, "more than there are", x.book(21), 1);
        fine(x, "the tape was left", x.book(8), 0);
        due("stage", x.told(0), 5);
        refused(x, "the tape is empty", x.book(1), 1);
        due("fault() tells the one with status 0", x.fault(0), 0);
        refused(x, "the end", x.book(0), 9);
        due("fault", x.fault(0), 2);
        due("place", x.fault(1), 0);
        fine(x, "methods", Texts.book(x, MINOR), 2);
        Texts.touch(x, "plain pb;");
        x.ring();
        Texts.feed(x, "stage 4; method");
        refused(x, "faulty", x.book(15), 9);
        refused(x, "the tape is empty all the same", x.book(1), 1);
        fine(x, "the old one stays", x.told(0), 6);
        fine(x, "what is rung stays", x.told(5), 12);
        fine(x, "another", Texts.book(x, "stage 6;"), 0);
        refused(x, "no touch", x.told(4), 6);
        refused(x, "nothing rung", x.told(5), 6);
        bookFaults();
        bookForms();
    }

    private static void bookFaults() {
        bookFault("stage 123456789", 1, 6);
        bookFault("stage 4;method a x,", 1, 18);
        bookFault("stage 000000004;", 1, 6);
        bookFault("stage 8;method a 123456789;", 1, 17);
        bookFault("stage 4;\t", 1, 8);
        bookFault("stage 4;Method", 1, 8);
        bookFault("abcdefghi 4;", 2, 0);
        bookFault("stagestage 4;", 2, 0);
        bookFault("stage", 2, 5);
        bookFault("stage  ", 2, 7);
        bookFault("stage four", 2, 6);
        bookFault("stage 4;;", 2, 8);
        bookFault("stage 4;plain a;", 2, 8);
        bookFault("stage 4;method abcdefghi x;", 2, 15);
        bookFault("stage 4;method stop x;", 2, 15);
        bookFault("stage 4;method a back x;", 2, 17);
        bookFault("stage 4;method a xx;", 2, 17);
        bookFault("stage 4;method a x bob;", 2, 22);
        bookFault("stage 4;method a x single x back x;", 2, 28);
        bookFault("stage 4;method a x back x x;", 2, 26);
        bookFault("stage 4;method a x", 2, 18);
        bookFault("stage 4;ringer a x", 2, 17);
        bookFault("stage 4;method a x;ringer a 1;", 3, 26);
        bookFault("stage 4;ringer a 1;ringer a 9;", 3, 26);
        bookFault("stage 3;", 4, 6);
        bookFault("stage 9;", 4, 6);
        bookFault("stage 4;method a 014;", 4, 17);
        bookFault("stage 4;method a 11;", 4, 17);
        bookFault("stage 4;method a 145;", 4, 17);
        bookFault("stage 5;method a 1 single x;", 4, 26);
        bookFault("stage 4;ringer a 0;", 4, 17);
        bookFault("stage 4;ringer a 5;", 4, 17);
        bookFault("stage 4;ringer a 2;ringer b 02;", 5, 28);
        bookFault("stage 4;method a x;method b x;method c x;method d x;method", 6, 52);
        bookFault("stage 4;method a" + times(" x", 32) + " 14;", 6, 81);
        bookFault("stage 4;method a" + times(" x", 32) + " 13;", 4, 81);
        bookFault("stage 4;method a" + times(" x", 17) + " back 13;", 6, 51);
        bookFault("stage 8;ringer a 1;ringer b 2;ringer c 3;ringer d 4;ringer e 5;ringer f 6;ringer g 7;"
                + "ringer h 8;ringer", 6, 96);
    }

    private static void bookForms() {
        RingChamber x = new RingChamber();
        fine(x, "blanks or none", Texts.book(x, " stage4 ;\nmethod\n eightabc x14x14back12;ringer a 01;"), 1);
        due("changes", x.changes(0), 8);
        due("silent", x.told(3), 14);
        fine(x, "32 changes", Texts.book(x, "stage 8;method a" + times(" x", 32) + ";"), 1);
        due("changes", x.changes(0), 32);
        fine(x, "16 and back", Texts.book(x, "stage 8;method a" + times(" x", 16) + " back 18;"), 1);
        due("changes", x.changes(0), 32);
        fine(x, "four methods", Texts.book(x, "stage 04;method a x;method b x;method c x;method d x;"), 4);
        fine(x, "8 digits", Texts.book(x, "stage 00000008;method a 12345678;ringer b 00000001;"), 1);
        due("all stay", x.change(0, 0, 0), 12345678);
        due("silent", x.told(3), 254);
        fine(x, "odd", Texts.book(x, "stage 7;method a 7 1 back 127 bob 347 single 12347;"), 1);
        due("rows", x.told(2), 5040);
        due("back", x.change(0, 0, 2), 7);
        due("back", x.change(0, 0, 3), 127);
        due("bob", x.change(0, 1, 3), 347);
        due("single", x.change(0, 2, 3), 12347);
    }

    private static void touch() {
        promise = 11;
        RingChamber x = with(MINIMUS);
        Texts.feed(x, "plain plainb;");
        refused(x, "below 0", x.touch(-1), 1);
        refused(x, "more than there are", x.touch(21), 1);
        fine(x, "the tape was left", x.touch(13), 1);
        refused(x, "the tape is empty", x.touch(1), 1);
        Texts.feed(x, times(" ", 320));
        refused(x, "above 300", x.touch(301), 1);
        fine(x, "300", x.touch(300), 0);
        fine(x, "there is one without steps", x.told(4), 0);
        fine(x, "ring", x.ring(), 0);
        fine(x, "empty", x.touch(0), 0);
        refused(x, "nothing is rung then", x.told(5), 6);
        fine(x, "touch", Texts.touch(x, "loop 99;loop 9;loop 1;part plainb 8;end;end;end;stop;"), 5);
        // 300 steps: 15 times round the outer loop, then 6 parts more
        fine(x, "ring", x.ring(), 8 * (15 * 9 + 6));
        refused(x, "faulty", Texts.touch(x, "stop"), 9);
        refused(x, "the tape is empty", x.touch(1), 1);
        fine(x, "the old one stays", x.told(4), 5);
        fine(x, "rung stays", x.told(5), 1128);
        fine(x, "30 steps", Texts.touch(x, times("stop;", 30)), 30);
        touchFaults();
    }

    private static void touchFaults() {
        touchFault("plain plainb;?", 1, 13);
        touchFault("loop 123456789;", 1, 5);
        touchFault("plain", 2, 5);
        touchFault("plain plainb", 2, 12);
        touchFault("plain plain;", 2, 6);
        touchFault("plain abcdefghi;", 2, 6);
        touchFault("method a x;", 2, 0);
        touchFault("end;", 2, 0);
        touchFault("loop 2;plain plainb;", 2, 20);
        touchFault("loop 2;end end", 2, 11);
        touchFault("part plainb;", 2, 11);
        touchFault("bob u;", 3, 4);
        touchFault("single no;", 3, 7);
        touchFault("part plainb 0;", 4, 12);
        touchFault("part plainb 9;", 4, 12);
        touchFault("loop 0;", 4, 5);
        touchFault("loop 100;", 4, 5);
        touchFault(times("stop;", 30) + "loop 0;", 6, 150);
        touchFault("loop 1;loop 1;loop 1;loop 1;", 7, 21);
        touchFault("loop 1;loop 1;loop 1;" + times("stop;", 27) + "loop 1;", 6, 156);
    }

    private static void fault() {
        promise = 12;
        RingChamber x = new RingChamber();
        due("ahead of any", x.fault(0), NONE);
        due("ahead of any", x.fault(1), NONE);
        x.book(-1);
        due("a status 1 is none", x.fault(0), NONE);
        Texts.touch(x, "plain z;");
        due("kind", x.fault(0), 3);
        due("place", x.fault(1), 6);
        due("others", x.fault(2), NONE);
        due("others", x.fault(-1), NONE);
        x.touch(9);
        due("still", x.fault(0), 3);
        x.touch(0);
        due("without one", x.fault(0), 0);
        due("without one", x.fault(1), NONE);
        x.bell(-1, 0);
        x.fault(0);
        due("no status", x.status(), 1);
    }

    private static void told() {
        promise = 13;
        RingChamber x = rung(MINIMUS, "loop 2;plain plainb;end;stop;");
        fine(x, "stage", x.told(0), 4);
        fine(x, "methods", x.told(1), 1);
        fine(x, "rows", x.told(2), 24);
        fine(x, "silent", x.told(3), 4);
        fine(x, "steps", x.told(4), 3);
        fine(x, "changes", x.told(5), 16);
        refused(x, "told(6)", x.told(6), 1);
        refused(x, "told(-1)", x.told(-1), 1);
        x = with("stage 8;ringer a 8;ringer b 1;");
        fine(x, "rows", x.told(2), 40320);
        fine(x, "silent", x.told(3), 126);
        refused(x, "no touch", x.told(4), 6);
        refused(x, "nothing rung", x.told(5), 6);
    }

    public static void main(String[] args) {
        newObject();
        status();
        fraction();
        tray();
        write();
        read();
        pour();
        feed();
        book();
        touch();
        fault();
        told();
        settle("TrayAndTextTest");
    }
}
