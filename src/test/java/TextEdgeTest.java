/** Each sentence about TRAYS and texts that names a boundary, by itself; promises 1 to 13 and the terms they use. */
public final class TextEdgeTest extends Edge {
    private static final String[] RESERVED = {"stage", "method", "x", "back", "bob", "single", "ringer", "plain",
        "part", "loop", "end", "stop"};

    // ---- TRAYS

    private static void trayTerms() {
        term("TRAYS 0 to 3 are MISSING at first");
        RingChamber x = new RingChamber();
        for (int t = 0; t < 4; t++) {
            refused(x, "read", x.read(t, 0), 2);
            denied(x, "write", x.write(t, 0, 1), 2);
            denied(x, "pour", x.pour(t, 0, t, 0, 0), 2);
            refused(x, "number", x.number(t), 2);
            refused(x, "music", x.music(t), 2);
        }
        for (int t : new int[] {-1, 4, LEAST, MOST}) {
            refused(x, "read", x.read(t, 0), 1);
            denied(x, "write", x.write(t, 0, 1), 1);
            denied(x, "pour from", x.pour(t, 0, 0, 0, 0), 1);
            denied(x, "pour to", x.pour(0, 0, t, 0, 0), 1);
            refused(x, "number", x.number(t), 1);
            refused(x, "music", x.music(t), 1);
        }

        term("rows of 0 to 60 numbers");
        done(x, "0 numbers", x.tray(0, 2, 0));
        refused(x, "the place 0 of none", x.read(0, 0), 3);
        denied(x, "the place 0 of none", x.write(0, 0, 1), 3);
        done(x, "60 numbers", x.tray(1, 2, 60));
        done(x, "the last", x.write(1, 59, 7));
        fine(x, "the last", x.read(1, 59), 7);
        refused(x, "one more", x.read(1, 60), 3);
        denied(x, "one more", x.write(1, 60, 7), 3);
        denied(x, "61 numbers", x.tray(1, 2, 61), 1);
        denied(x, "-1 numbers", x.tray(1, 2, -1), 1);
        fine(x, "the old TRAY stays", x.read(1, 59), 7);

        term("numbers of 8 bits (sort 0), 16 (1), 32 (2) or 64 (3)");
        for (int sort = 0; sort < 4; sort++) {
            long most = Long.MAX_VALUE >> 64 - (8 << sort);
            cut(sort, most, most);
            cut(sort, most + 1, -most - 1);
            cut(sort, -most - 1, -most - 1);
            cut(sort, -most - 2, most);
            cut(sort, 2 * most + 1, -1);
            cut(sort, 2 * most + 2, 0);
            cut(sort, 0, 0);
            cut(sort, -1, -1);
        }
        denied(x, "sort -1", x.tray(2, -1, 1), 1);
        denied(x, "sort 4", x.tray(2, 4, 1), 1);
        refused(x, "it is missing still", x.read(2, 0), 2);
    }

    private static void cut(int sort, long given, long due) {
        RingChamber x = new RingChamber();
        x.tray(3, sort, 3);
        done(x, "write " + given, x.write(3, 1, given));
        fine(x, given + " in sort " + sort, x.read(3, 1), due);
        fine(x, "the place ahead", x.read(3, 0), 0);
        fine(x, "the place behind", x.read(3, 2), 0);
    }

    private static void trayPromises() {
        says(5, "A TRAY is a row of so many 0s (1).");
        RingChamber x = new RingChamber();
        for (int t : new int[] {-1, 4, LEAST, MOST}) denied(x, "tray " + t, x.tray(t, 0, 1), 1);
        for (int s : new int[] {-1, 4, LEAST, MOST}) denied(x, "sort " + s, x.tray(0, s, 1), 1);
        for (int n : new int[] {-1, 61, LEAST, MOST}) denied(x, "many " + n, x.tray(0, 0, n), 1);
        for (int t = 0; t < 4; t++) {
            refused(x, "missing still", x.read(t, 0), 2);
            done(x, "tray " + t, x.tray(t, t, t + 1));
            fine(x, "its last", x.read(t, t), 0);
            refused(x, "one more", x.read(t, t + 1), 3);
        }
        for (int p = 0; p < 4; p++) x.write(3, p, -1);
        done(x, "fewer", x.tray(3, 3, 2));
        fine(x, "0s again", x.read(3, 1), 0);
        refused(x, "fewer", x.read(3, 2), 3);

        says(6, "A number comes to a place of a TRAY, cut to its sort (1, 2, 3).");
        x = new RingChamber();
        denied(x, "no such TRAY, though the place can't be either", x.write(4, -1, 0), 1);
        denied(x, "MISSING, though the place can't be either", x.write(3, -1, 0), 2);
        fill(x, 0, 0, 1, 2, 3);
        for (int p : new int[] {-1, 3, LEAST, MOST}) denied(x, "place " + p, x.write(0, p, 9), 3);
        for (int p = 0; p < 3; p++) fine(x, "left as it is", x.read(0, p), p + 1);
        done(x, "the first", x.write(0, 0, 511));
        fine(x, "cut", x.read(0, 0), -1);
        done(x, "the last", x.write(0, 2, Long.MIN_VALUE));
        fine(x, "cut", x.read(0, 2), 0);

        says(7, "The number in a place of a TRAY; STATUS tells NONE from -1 (1, 2, 3).");
        x = new RingChamber();
        refused(x, "no such TRAY, though the place can't be either", x.read(-1, -1), 1);
        refused(x, "MISSING, though the place can't be either", x.read(0, -1), 2);
        fill(x, 0, 3, -1, Long.MAX_VALUE);
        fine(x, "-1 that stands there", x.read(0, 0), -1);
        fine(x, "the last", x.read(0, 1), Long.MAX_VALUE);
        for (int p : new int[] {-1, 2, LEAST, MOST}) refused(x, "place " + p, x.read(0, p), 3);
    }

    private static void pour() {
        says(8, "(1: below 0, too; 2; 8; 3; asked in this order)");
        RingChamber x = new RingChamber();
        fill(x, 0, 1, 1, 2, 3);
        fill(x, 1, 1, 4, 5, 6);
        fill(x, 2, 2, 7);
        int[] wrong = {-1, LEAST};
        for (int n : wrong) {
            denied(x, "a place below 0 ahead of MISSING", x.pour(3, n, 0, 0, 1), 1);
            denied(x, "another place below 0 ahead of MISSING", x.pour(0, 0, 3, n, 1), 1);
            denied(x, "less than none ahead of MISSING", x.pour(0, 0, 3, 0, n), 1);
            denied(x, "a place below 0", x.pour(0, n, 1, 0, 1), 1);
            denied(x, "another place below 0", x.pour(0, 0, 1, n, 1), 1);
            denied(x, "less than none", x.pour(0, 0, 1, 0, n), 1);
        }
        for (int t : new int[] {-1, 4}) {
            denied(x, "no such TRAY ahead of MISSING", x.pour(t, 0, 3, 0, 1), 1);
            denied(x, "no such TRAY ahead of MISSING", x.pour(3, 0, t, 0, 1), 1);
        }
        denied(x, "MISSING ahead of a place that isn't there", x.pour(3, 9, 0, 9, 9), 2);
        denied(x, "MISSING ahead of a place that isn't there", x.pour(0, 9, 3, 9, 9), 2);
        denied(x, "unlike sorts ahead of a place that isn't there", x.pour(0, 9, 2, 9, 9), 8);
        denied(x, "unlike sorts, though nothing is poured", x.pour(0, 0, 2, 0, 0), 8);
        denied(x, "more than from there on", x.pour(0, 1, 1, 0, 3), 3);
        denied(x, "more than to there on", x.pour(0, 0, 1, 1, 3), 3);
        denied(x, "a place behind the last", x.pour(0, 3, 1, 0, 1), 3);
        denied(x, "a place behind the last", x.pour(0, 0, 1, 3, 1), 3);
        denied(x, "far behind", x.pour(0, MOST, 1, 0, 1), 3);
        denied(x, "far behind", x.pour(0, 1, 1, MOST, MOST), 3);
        denied(x, "none from behind the end", x.pour(0, 4, 1, 0, 0), 3);
        denied(x, "none to behind the end", x.pour(0, 0, 1, 4, 0), 3);
        long[] kept = {4, 5, 6};
        for (int p = 0; p < 3; p++) fine(x, "left as it is", x.read(1, p), kept[p]);

        says(8, "So many numbers of a TRAY, from a place on, come to another one's (or its own) place on");
        done(x, "none", x.pour(0, 0, 1, 0, 0));
        done(x, "none from behind the last on", x.pour(0, 3, 1, 0, 0));
        done(x, "none to behind the last", x.pour(0, 0, 1, 3, 0));
        for (int p = 0; p < 3; p++) fine(x, "left as it is", x.read(1, p), kept[p]);
        done(x, "the last to the last", x.pour(0, 2, 1, 2, 1));
        fine(x, "come", x.read(1, 2), 3);
        fine(x, "not come", x.read(1, 1), 5);
        done(x, "all", x.pour(0, 0, 1, 0, 3));
        for (int p = 0; p < 3; p++) fine(x, "come", x.read(1, p), p + 1);

        says(8, "as they were");
        done(x, "up into itself", x.pour(0, 0, 0, 1, 2));
        long[] up = {1, 1, 2};
        for (int p = 0; p < 3; p++) fine(x, "up", x.read(0, p), up[p]);
        done(x, "down into itself", x.pour(1, 1, 1, 0, 2));
        long[] down = {2, 3, 3};
        for (int p = 0; p < 3; p++) fine(x, "down", x.read(1, p), down[p]);
        done(x, "on itself", x.pour(1, 0, 1, 0, 3));
        for (int p = 0; p < 3; p++) fine(x, "the same", x.read(1, p), down[p]);
    }

    // ---- TOKENS

    private static void tokens() {
        term("A BOOK is a TEXT of at most 900 bytes.");
        String full = "stage 8;" + times(" ", 881) + "ringer a 8;";
        due("as long as may be", full.length(), 900);
        RingChamber x = new RingChamber();
        fine(x, "900 bytes", Texts.book(x, full), 0);
        fine(x, "its last part", x.told(3), 127);
        Texts.feed(x, full);
        refused(x, "without the last byte", x.book(899), 9);
        due("the end", x.fault(1), 899);
        bookFault("stage 8;" + times(" ", 886) + "ringer", 2, 900);
        bookFault("stage 8;" + times(" ", 883) + "ringer a1", 2, 900);
        bookFault("stage 8;" + times(" ", 891) + "?", 1, 899);

        term("TOKENS, as long as they go");
        bookTaken("stage4;method a x14x14back12bob14single1234;ringer b1;", 1);
        bookFault("stagestage 4;", 2, 0);
        bookFault("stage 44;", 4, 6);
        bookFault("stage 4 4;", 2, 8);
        bookFault("stage 4;method a xx;", 2, 17);
        bookFault("stage 4;method a 1 4;", 4, 17);
        bookFault("stage 4;method a x backx;", 2, 19);
        bookFault("sta ge 4;", 2, 0);

        term("between them blanks (10, 32)");
        for (int b = 0; b < 256; b++) between(b);
        bookTaken("\n \n stage\n\n4  ;\n", 0);
        touchTaken(" \n", 0);

        term("WORDS (small letters), NUMBERS (1 to 8 digits), the SIGN ;");
        bookTaken("stage 5;", 0);
        bookTaken("stage 00000005;", 0);
        bookFault("stage 000000005;", 1, 6);
        bookFault("stage " + times("5", 40) + ";", 1, 6);
        bookFault("stage 99999999;", 4, 6);
        bookFault("Stage 5;", 1, 0);
        bookFault("stagE 5;", 2, 0);
        touchTaken("loop 00000099;end;", 1);
        touchFault("loop 000000099;end;", 1, 5);
        touchFault("part a 000000001;", 1, 7);
    }

    /** A byte between two TOKENS, and one where a PART begins. */
    private static void between(int b) {
        String c = String.valueOf((char) b);
        boolean letter = b >= 'a' && b <= 'z';
        boolean digit = b >= '0' && b <= '9';
        if (b == 10 || b == 32 || b == '0') bookTaken("stage" + c + "4;", 0);
        else if (digit) bookFault("stage" + c + "4;", 4, 5);
        else bookFault("stage" + c + "4;", letter || b == ';' ? 2 : 1, letter ? 0 : 5);
        if (b == 10 || b == 32) bookTaken("stage 4;" + c, 0);
        else bookFault("stage 4;" + c, letter || digit || b == ';' ? 2 : 1, 8);
    }

    // ---- BOOKS

    private static void forms() {
        term("BOOK: stage NUMBER ; {PART}.");
        bookTaken("stage 4;", 0);
        bookFault("", 2, 0);
        bookFault("  ", 2, 2);
        bookFault(";", 2, 0);
        bookFault("4;", 2, 0);
        bookFault("stage;", 2, 5);
        bookFault("stage x;", 2, 6);
        bookFault("stage 4", 2, 7);
        bookFault("stage 4 ringer a 1;", 2, 8);
        bookFault("stage 4;stage 4;", 2, 8);
        bookFault("ringer a 1;", 2, 0);

        term("PART: method NAME PLACES {PLACES} [back PLACES] [bob PLACES] [single PLACES] ; or ringer NAME NUMBER ;");
        bookTaken("stage 4;method a x;", 1);
        bookTaken("stage 4;method a x back x;", 1);
        bookTaken("stage 4;method a x bob x;", 1);
        bookTaken("stage 4;method a x single x;", 1);
        bookTaken("stage 4;method a x back x single x;", 1);
        bookTaken("stage 4;ringer a 1;method b x 14 back 12 bob 14 single 34;ringer c 2;", 1);
        bookFault("stage 4;method;", 2, 14);
        bookFault("stage 4;method 1 x;", 2, 15);
        bookFault("stage 4;method a;", 2, 16);
        bookFault("stage 4;method a back x;", 2, 17);
        bookFault("stage 4;method a x back;", 2, 23);
        bookFault("stage 4;method a x back x x;", 2, 26);
        bookFault("stage 4;method a x back x back x;", 2, 26);
        bookFault("stage 4;method a x bob;", 2, 22);
        bookFault("stage 4;method a x bob x x;", 2, 25);
        bookFault("stage 4;method a x bob x bob x;", 2, 25);
        bookFault("stage 4;method a x bob x back x;", 2, 25);
        bookFault("stage 4;method a x single;", 2, 25);
        bookFault("stage 4;method a x single x 14;", 2, 28);
        bookFault("stage 4;method a x single x single x;", 2, 28);
        bookFault("stage 4;method a x single x bob x;", 2, 28);
        bookFault("stage 4;method a x ringer b 1;", 2, 19);
        bookFault("stage 4;ringer;", 2, 14);
        bookFault("stage 4;ringer 1;", 2, 15);
        bookFault("stage 4;ringer a;", 2, 16);
        bookFault("stage 4;ringer a x;", 2, 17);
        bookFault("stage 4;ringer a 1 2;", 2, 19);
        bookFault("stage 4;ringer a 1", 2, 18);
    }

    private static void names() {
        term("NAME: a WORD of 1 to 8 letters that is none of stage, method, x, back, bob, single, ringer, plain, part, loop, end, stop.");
        for (String word : RESERVED) {
            bookFault("stage 4;method " + word + " x;", 2, 15);
            bookFault("stage 4;ringer " + word + " 1;", 2, 15);
            touchFault("plain " + word + ";", 2, 6);
            String longer = word + "a";
            bookTaken("stage 4;method " + longer + " x;ringer a" + word + " 1;", 1);
            RingChamber x = with("stage 4;method " + longer + " x;");
            fine(x, longer + " in a touch", Texts.touch(x, "bob " + longer + ";"), 1);
        }
        bookTaken("stage 4;method a x;method z x;ringer abcdefgh 1;ringer zzzzzzzz 2;ringer aaaaaaaa 3;", 2);
        bookFault("stage 4;method abcdefghi x;", 2, 15);
        bookFault("stage 4;ringer zzzzzzzzz 1;", 2, 15);
        bookFault("stage 4;method " + times("m", 300) + " x;", 2, 15);
        touchFault("plain abcdefghi;", 2, 6);
        RingChamber x = with("stage 4;method abcdefgh x;");
        fine(x, "8 letters in a touch", Texts.touch(x, "part abcdefgh 1;"), 1);

        term("One NAME is of one thing alone.");
        bookFault("stage 4;method a x;method a x;", 3, 26);
        bookFault("stage 4;method a x;ringer a 1;", 3, 26);
        bookFault("stage 4;ringer a 1;method a x;", 3, 26);
        bookFault("stage 4;ringer a 1;ringer a 2;", 3, 26);
        String eight = "stage 8;ringer a 1;ringer b 2;ringer c 3;ringer d 4;ringer e 5;ringer f 6;ringer g 7;ringer h 8;";
        bookFault(eight + "method i x;method j x;method k x;method h x;", 3, 136);
        bookFault(eight + "method i x;method j x;method k x;method k x;", 3, 136);
        bookTaken(eight + "method i x;method j x;method k x;method l x;", 4);
        bookTaken("stage 4;method a x;method aa x;ringer aaaaaaaa 1;ringer aaaaaaab 2;ringer baaaaaaa 3;", 2);
    }

    private static void stagesAndPlaces() {
        term("STAGE: there are so many BELLS (4 to 8): 1, 2 ..");
        for (int stage = 0; stage < 20; stage++) {
            if (stage < 4 || stage > 8) {
                bookFault("stage " + stage + ";", 4, 6);
                continue;
            }
            RingChamber x = with("stage " + stage + ";");
            fine(x, "STAGE", x.told(0), stage);
            fine(x, "the last BELL of ROUNDS", x.bell(0, stage), stage);
        }

        term("PLACES: the WORD x, or a NUMBER whose digits are places, each greater than the one ahead of it");
        for (int stage = 4; stage <= 8; stage++) {
            String head = "stage " + stage + ";method a ";
            bookTaken(head + stays(stage) + ";", 1);
            bookTaken(head + stays(stage).substring(2) + ";", 1);
            if (stage < 8) bookFault(head + stays(stage + 1) + ";", 4, 17);
            bookFault(head + (stage + 1) + ";", 4, 17);
            for (String no : new String[] {"0", "00", "012", "10", "11", "21", "1230", "1223", "9", "19", "99999999", "00000012"})
                bookFault(head + no + ";", 4, 17);
        }

        term("where they stand BELLS stay; all others are exchanged by two neighbours, from place 1 on (x: none stays)");
        for (int stage = 4; stage <= 8; stage++) {
            for (int set = 0; set < 1 << stage; set++) oneChange(stage, set);
        }
    }

    /** A BOOK with one CHANGE, by the places that stay, held against exchanges done by hand. */
    private static void oneChange(int stage, int set) {
        StringBuilder stay = new StringBuilder();
        int[] row = new int[stage];
        boolean can = true;
        for (int p = 0; p < stage; p++) {
            row[p] = p + 1;
            if ((set >> p & 1) == 1) {
                stay.append(p + 1);
            } else if (p + 1 < stage && (set >> p + 1 & 1) == 0) {
                row[p] = p + 2;
                row[p + 1] = p + 1;
                p++;
            } else {
                can = false;
            }
        }
        String places = set == 0 ? "x" : stay.toString();
        String text = "stage " + stage + ";method a " + places + ";";
        if (!can) {
            bookFault(text, 4, 17);
            return;
        }
        RingChamber x = with(text);
        int head = x.head(0, 0);
        for (int p = 0; p < stage; p++) due(text + " place " + (p + 1), x.bell(head, p + 1), row[p]);
    }

    private static void methodsAndRingers() {
        term("METHODS, at most 4");
        String[] parts = {"method a x;", "method b x;", "method c x;", "method d x;"};
        String text = "stage 4;";
        bookTaken(text, 0);
        for (int m = 0; m < 4; m++) {
            text += parts[m];
            bookTaken(text, m + 1);
        }
        bookFault(text + "method e x;", 6, 52);
        bookFault(text + "ringer e 1; method", 6, 64);

        term("the CHANGES of a LEAD, in order, at most 32");
        RingChamber x = with("stage 4;method a" + times(" x 14", 16) + " bob 12;");
        fine(x, "32", x.changes(0), 32);
        fine(x, "the first", x.change(0, 0, 0), 0);
        fine(x, "the last", x.change(0, 0, 31), 14);
        fine(x, "the last, with a bob", x.change(0, 1, 31), 12);
        bookFault("stage 4;method a" + times(" x", 33) + ";", 6, 81);
        bookFault("stage 4;method a" + times(" x", 33), 6, 81);
        bookTaken("stage 4;method a x;", 1);
        fine(x, "one method's changes are not another's", Texts.book(x, "stage 4;method a" + times(" x", 32) + ";method b" + times(" 14", 32) + ";"), 2);
        fine(x, "the second", x.change(1, 0, 31), 14);

        term("with back those told are followed by all of them but the last, backward, and then by that behind back (at most 32 all together)");
        leadIs("x back 14", 0, 14);
        leadIs("x 16 back 12", 0, 16, 0, 12);
        leadIs("12 14 16 back 34", 12, 14, 16, 14, 12, 34);
        x = with("stage 6;method a" + times(" x 16", 7) + " x 36 back 12;");
        fine(x, "16 and back", x.changes(0), 32);
        fine(x, "the middle", x.change(0, 0, 15), 36);
        fine(x, "behind it", x.change(0, 0, 16), 0);
        fine(x, "ahead of the last", x.change(0, 0, 30), 0);
        fine(x, "the last", x.change(0, 0, 31), 12);
        bookFault("stage 6;method a" + times(" x", 17) + " back x;", 6, 51);
        bookFault("stage 6;method a" + times(" x", 32) + " back x;", 6, 81);

        term("BOB, SINGLE: the CHANGE in place of the last one of a LEAD with that call; without: the last one is as it is.");
        x = with("stage 4;method a x 14;method b x 14 bob 12;method c x 14 single 34;method d 12 back 14 bob x single 1234;");
        int[][] lasts = {{14, 14, 14}, {14, 12, 14}, {14, 14, 34}, {14, 0, 1234}};
        for (int m = 0; m < 4; m++) for (int c = 0; c < 3; c++) {
            fine(x, "the first", x.change(m, c, 0), m == 3 ? 12 : 0);
            fine(x, "the last of method " + m + " with call " + c, x.change(m, c, 1), lasts[m][c]);
        }

        x = with("stage 4;method a x;method b 14;");
        for (int c = 0; c < 3; c++) {
            fine(x, "the only one", x.change(0, c, 0), 0);
            fine(x, "the only one", x.change(1, c, 0), 14);
        }

        term("RINGERS, at most 8, ring one BELL each; a BELL that nobody rings is SILENT.");
        text = "stage 8;";
        for (int b = 1; b <= 8; b++) {
            text += "ringer " + (char) ('a' + b) + " " + b + ";";
            x = with(text);
            fine(x, "silent behind BELL " + b, x.told(3), 255 & 255 << b);
        }
        bookFault(text + "ringer z 1;", 6, 96);
        bookFault(text + "ringer b 9;", 6, 96);
        for (int stage = 4; stage <= 8; stage++) {
            x = with("stage " + stage + ";");
            fine(x, "all are silent", x.told(3), (1 << stage) - 1);
        }
    }

    private static void leadIs(String told, int... changes) {
        RingChamber x = with("stage 6;method a " + told + ";");
        fine(x, "changes of " + told, x.changes(0), changes.length);
        for (int k = 0; k < changes.length; k++) fine(x, "change " + k + " of " + told, x.change(0, 0, k), changes[k]);
    }

    private static void bookFaults() {
        term("FAULTS, the first along the text (of one TOKEN the least kind)");
        bookFault("stage 9;?", 4, 6);
        bookFault("stage 4 ?", 1, 8);
        bookFault("stage 4;method a 13 ? stage", 4, 17);
        bookFault("stage 4;ringer a 1;ringer a 1;", 3, 26);
        bookFault("stage 4;ringer a 1;ringer b 1 ?", 5, 28);
        bookFault("stage 4;method a" + times(" x", 32) + " 13;", 4, 81);
        bookFault("stage 4;method a" + times(" x", 32) + " 123456789;", 1, 81);
        bookFault("stage 4;method a" + times(" x", 32) + " ?", 1, 81);
        bookFault("stage 5;method a" + times(" 1", 32) + " x", 4, 81);

        term("1 no TOKEN begins so (a NUMBER of 9 digits and more: at its first)");
        bookFault("?", 1, 0);
        bookFault(" -4", 1, 1);
        bookFault("123456789", 1, 0);
        bookFault("stage 4;method 123456789 x;", 1, 15);
        bookFault("stage 4;method a x 123456789;", 1, 19);
        bookFault("stage 4;ringer a 000000001;", 1, 17);
        bookFault("stage 4;ringer a 1 123456789", 1, 19);

        term("2 it can't stand there (the end: the text's length; a WORD of 9 letters and more where a NAME must stand)");
        String[] tokens = {"stage", " 4", ";", "method", " a", " x", " back", " 14", " bob", " 12", " single", " 34", ";", "ringer", " b", " 1", ";"};
        String text = "";
        for (int i = 0; i < tokens.length; i++) {
            text += tokens[i];
            if (tokens[i].equals(";")) continue;
            bookFault(text, 2, text.length());
            bookFault(text + " \n", 2, text.length() + 2);
        }
        bookFault("stage 4;method a x   ", 2, 21);
        bookFault("stage 4;method abcdefghi", 2, 15);
        bookFault("stage 4;abcdefghi", 2, 8);

        term("3 a new NAME that is taken.");
        bookFault("stage 4;method a x;method a", 3, 26);
        bookFault("stage 4;method abcdefgh x;ringer  abcdefgh 1;", 3, 34);

        term("4 a NUMBER that can't be: no such STAGE, BELL;");
        bookFault("stage 3;", 4, 6);
        bookFault("stage 9;", 4, 6);
        bookFault("stage 0;", 4, 6);
        for (int stage = 4; stage <= 8; stage++) {
            bookTaken("stage " + stage + ";ringer a 1;ringer b " + stage + ";", 0);
            bookFault("stage " + stage + ";ringer a 0;", 4, 17);
            bookFault("stage " + stage + ";ringer a " + (stage + 1) + ";", 4, 17);
            bookFault("stage " + stage + ";ringer a 99999999;", 4, 17);
        }

        term("PLACES with a digit that is no place, or not greater than the one ahead;");
        for (String no : new String[] {"5", "15", "0", "10", "01", "41", "44", "1244"}) {
            bookFault("stage 4;method a x x " + no + ";", 4, 21);
            bookFault("stage 4;method a x back " + no + ";", 4, 24);
            bookFault("stage 4;method a x bob " + no + ";", 4, 23);
            bookFault("stage 4;method a x single " + no + ";", 4, 26);
        }

        term("PLACES by which those who do not stay can't be exchanged by two neighbours (x, too; at that WORD)");
        for (String no : new String[] {"x", "15", "2", "12", "24", "1345"}) {
            bookFault("stage 5;method a " + no + ";", 4, 17);
            bookFault("stage 5;method a 1 " + no + ";", 4, 19);
            bookFault("stage 5;method a 1 back " + no + ";", 4, 24);
            bookFault("stage 5;method a 1 bob " + no + ";", 4, 23);
            bookFault("stage 5;method a 1 single " + no + ";", 4, 26);
        }
        bookFault("stage 7;method a  x;", 4, 18);

        term("5 a BELL that is rung already (at its NUMBER).");
        bookFault("stage 8;ringer a 8;ringer b 8;", 5, 28);
        bookFault("stage 8;ringer a 1;ringer b 2;ringer c   00000001;", 5, 41);
        bookFault("stage 4;ringer a 1;ringer b 2;ringer c 3;ringer d 4;ringer e 4;", 5, 61);

        term("6 one more method, ringer than there may be (at that WORD); a 33rd CHANGE, as told (at it; of back: at that WORD, if all would be more than 32).");
        bookFault("stage 4;method a x;method b x;method c x;method d x; method stop", 6, 53);
        bookFault("stage 8;" + times("ringer z 1;", 1) + "ringer y 2;ringer x", 2, 37);
        bookFault("stage 4;method a" + times(" 14", 32) + "  14;", 6, 114);
        bookFault("stage 4;method a" + times(" 14", 17) + "  back 99;", 6, 69);
        bookFault("stage 4;method a" + times(" 14", 17) + " back", 6, 68);
        bookTaken("stage 4;method a" + times(" 14", 16) + " back 14 bob 14 single 14;", 1);
    }

    private static void bookTaken() {
        term("A BOOK that is taken is there in place of that ahead; there is no TOUCH, nothing is rung.");
        RingChamber x = rung(FOUR, "plain a;");
        fine(x, "another", Texts.book(x, "stage 5;ringer a 5;"), 0);
        fine(x, "its STAGE", x.told(0), 5);
        fine(x, "its METHODS", x.told(1), 0);
        fine(x, "its SILENT", x.told(3), 15);
        refused(x, "no TOUCH", x.told(4), 6);
        refused(x, "nothing RUNG", x.told(5), 6);
        refused(x, "no METHOD", x.changes(0), 1);
        refused(x, "no TOUCH to ring", x.ring(), 6);
        refused(x, "no TOUCH to stray", x.strayed(0, 0), 6);
        x = rung(FOUR, "plain a;");
        fine(x, "the same again", Texts.book(x, FOUR), 4);
        refused(x, "no TOUCH", x.told(4), 6);
        refused(x, "nothing RUNG", x.rowAt(0), 6);
    }

    // ---- TOUCHES

    private static void touches() {
        term("A TOUCH is a TEXT of at most 300 bytes, of such TOKENS (none at first).");
        RingChamber x = with(FOUR);
        refused(x, "none at first", x.told(4), 6);
        String full = times(" ", 292) + "plain a;";
        fine(x, "300 bytes", Texts.touch(x, full), 1);
        Texts.feed(x, " " + full);
        refused(x, "301 bytes", x.touch(301), 1);
        refused(x, "without the last of them", x.touch(300), 9);
        due("the end", x.fault(1), 300);

        term("TOUCH: {STEP}. STEP: plain NAME ; or bob NAME ; or single NAME ; or part NAME NUMBER ; or loop NUMBER ; {STEP} end ; or stop ;");
        touchTaken("", 0);
        touchTaken("plain a;bob b;single c;part d 1;loop 1;stop;end;stop;", 7);
        touchTaken("loop 1;end;", 1);
        touchFault("plain;", 2, 5);
        touchFault("plain 1;", 2, 6);
        touchFault("bob a 1;", 2, 6);
        touchFault("single a", 2, 8);
        touchFault("part a;", 2, 6);
        touchFault("part 1 a;", 2, 5);
        touchFault("part a x;", 2, 7);
        touchFault("part a 1", 2, 8);
        touchFault("loop;end;", 2, 4);
        touchFault("loop a;end;", 2, 5);
        touchFault("loop 1 end;", 2, 7);
        touchFault("loop 1;end", 2, 10);
        touchFault("loop 1;end 1;", 2, 11);
        touchFault("stop", 2, 4);
        touchFault("stop a;", 2, 5);
        touchFault("a;", 2, 0);
        touchFault("stage 4;", 2, 0);
        touchFault(";", 2, 0);

        term("FAULTS: 1, 2 as above (an end without a beginning; the text's end ahead of an end: 2).");
        touchFault("?", 1, 0);
        touchFault("plain ?", 1, 6);
        touchFault("loop 1;end;?", 1, 11);
        touchFault("loop ?", 1, 5);
        touchFault("part a 123456789;", 1, 7);
        touchFault("end;", 2, 0);
        touchFault("loop 1;end;end;", 2, 11);
        touchFault("plain a; end;", 2, 9);
        touchFault("loop 1;", 2, 7);
        touchFault("loop 1;loop 1;end; ", 2, 19);
        x = with(FOUR);
        refused(x, "a loop without its end", Texts.touch(x, "loop 1;loop 1;"), 9);
        refused(x, "is no beginning for the next text", Texts.touch(x, "end;end;"), 9);
        due("fault", x.fault(0), 2);
        due("place", x.fault(1), 0);
        refused(x, "a loop without its end", Texts.touch(x, "loop 1;loop 1;"), 9);
        fine(x, "needs none in the next text", Texts.touch(x, "loop 1;loop 1;loop 1;end;end;end;"), 3);

        term("3 a NAME that is no METHOD.");
        touchFault("plain aa;", 3, 6);
        touchFault("bob e;", 3, 4);
        touchFault("single e;", 3, 7);
        touchFault("part e 0;", 3, 5);
        x = with("stage 4;ringer a 1;method b x;");
        refused(x, "a RINGER", Texts.touch(x, "plain a;"), 9);
        due("fault", x.fault(0), 3);
        x = new RingChamber();
        refused(x, "no METHOD at all", Texts.touch(x, "plain a;"), 9);
        due("fault", x.fault(0), 3);
        x = with(FOUR);
        Texts.book(x, "stage 4;method z x;");
        refused(x, "a METHOD of the BOOK ahead", Texts.touch(x, "plain a;"), 9);
        due("fault", x.fault(0), 3);
    }

    private static void touchNumbers() {
        term("4 a NUMBER that can't be.");
        touchFault("part a 0;", 4, 7);
        touchFault("part a 99999999;", 4, 7);
        touchFault("loop 0;", 4, 5);
        touchFault("loop 99999999;", 4, 5);

        term("6 a 31st STEP (at its WORD; end is none).");
        touchTaken(times("stop;", 30), 30);
        touchFault(times("stop;", 31), 6, 150);
        touchFault(times("stop;", 30) + " plain", 6, 151);
        touchFault(times("stop;", 30) + "part zz 0", 6, 150);
        touchTaken(times("loop 1;end;", 27), 27);
        touchTaken(times("loop 1;", 3) + times("stop;", 27) + times("end;", 3), 30);
        touchFault(times("loop 1;", 3) + times("stop;", 27) + times("end;", 3) + "stop;", 6, 168);
        touchTaken(times("loop 1;end;", 20) + times("stop;", 10), 30);
        touchFault(times("loop 1;end;", 20) + times("stop;", 11), 6, 270);
        touchFault(times("stop;", 30) + "end;", 2, 150);
        touchFault(times("stop;", 30) + "method", 2, 150);

        term("7 a loop within three others (at its WORD).");
        touchTaken("loop 1;loop 1;loop 1;end;loop 1;end;end;end;loop 1;end;", 5);
        touchFault("loop 1;loop 1;loop 1;loop 1;end;end;end;end;", 7, 21);
        touchFault("loop 1;loop 1;loop 1; loop", 7, 22);
        touchFault("loop 1;loop 1;loop 1;end;loop 1;loop 0;", 7, 32);

        term("FAULTS, the first along the text (of one TOKEN the least kind)");
        touchFault("loop 1;loop 1;loop 1;" + times("stop;", 27) + "loop 1;", 6, 156);
        touchFault("plain zz ?", 3, 6);
        touchFault("part a 9 ?", 4, 7);

        term("part n (1 to its CHANGES, asked as it is read): its first n CHANGES.");
        String[] names = {"a", "b", "c", "d"};
        int[] lengths = {8, 1, 2, 1};
        for (int m = 0; m < 4; m++) {
            ringsTo("part " + names[m] + " 1;", 1);
            ringsTo("part " + names[m] + " " + lengths[m] + ";", lengths[m]);
            touchFault("part " + names[m] + " 0;", 4, 7);
            touchFault("stop;part " + names[m] + " " + (lengths[m] + 1) + ";", 4, 12);
        }
        RingChamber x = rung(FOUR, "part a 8;");
        fine(x, "with all of them, as plain", x.rowAt(8), x.head(0, 0));

        term("plain, bob, single: a LEAD of it, with that call;");
        String[] calls = {"plain", "bob", "single"};
        for (int c = 0; c < 3; c++) {
            x = rung(FOUR, calls[c] + " a;");
            fine(x, "a LEAD", x.told(5), 8);
            fine(x, "ahead of its last CHANGE", x.rowAt(7), 2);
            fine(x, "behind a LEAD with " + calls[c], x.rowAt(8), new int[] {3, 0, 2}[c]);
            x = rung(FOUR, calls[c] + " b;");
            fine(x, "without such a call", x.rowAt(1), 7);
        }

        term("loop n (1 to 99): as often.");
        ringsTo("loop 1;plain b;end;", 1);
        ringsTo("loop 2;plain b;end;", 2);
        ringsTo("loop 99;plain b;end;", 99);
        touchFault("loop 0;plain b;end;", 4, 5);
        touchFault("loop 100;plain b;end;", 4, 5);
        ringsTo("loop 3;loop 2;plain b;end;loop 4;part c 1;end;end;", 18);
        ringsTo("loop 2;loop 2;loop 2;plain b;end;plain b;end;plain b;end;", 8 + 4 + 2);

        term("stop: all is over.");
        ringsTo("stop;plain b;", 0);
        ringsTo("plain b;stop;plain b;", 1);
        ringsTo("loop 9;loop 9;loop 9;plain b;stop;end;end;end;plain b;", 1);
    }

    static void ringsTo(String touch, int changes) {
        RingChamber x = with(FOUR);
        Texts.touch(x, touch);
        fine(x, "changes of " + touch, x.ring(), changes);
    }

    private static void overInFront() {
        term("At most 300 STEPS (loop counts as one each time it is come to from ahead; end does not), at most 2,000 CHANGES: all is over in front of one more.");
        String three = "loop 99;plain b;end;loop 99;plain b;end;loop 98;plain b;end;";
        // 3 loops and 296 leads are 299 steps
        ringsTo(three, 296);
        ringsTo(three + "plain b;", 297);
        ringsTo(three + "plain b;plain b;", 297);
        ringsTo(three + "plain a;plain b;", 304);
        ringsTo(three + "loop 9;plain b;end;", 296);
        // the loop within is come to from ahead each time: 1, then 75 times 1 and 3
        ringsTo("loop 99;loop 3;plain b;end;end;", 74 * 3 + 2);
        ringsTo("loop 99;loop 99;loop 99;end;end;end;plain b;", 0);
        // 1 and 99 times 3 loops that hold nothing, each come to its end 99 times, and one more: 299 steps
        String hollow = "loop 99;" + times("loop 99;end;", 3) + "end;loop 99;end;";
        ringsTo(hollow + "plain b;", 1);
        ringsTo(hollow + "plain b;plain b;", 1);
        ringsTo(hollow + "stop;plain b;", 0);
        // 1 and 2 and 2 times 99: ends are none
        ringsTo("loop 2;loop 99;plain b;end;end;" + times("plain b;", 9), 2 * 99 + 9);
        String long32 = "stage 4;method e" + times(" x 14", 16) + ";method b x;";
        changesAre(long32, "loop 62;plain e;end;", 1984);
        changesAre(long32, "loop 62;plain e;end;part e 15;", 1999);
        changesAre(long32, "loop 62;plain e;end;part e 16;", 2000);
        changesAre(long32, "loop 62;plain e;end;part e 15;plain b;", 2000);
        changesAre(long32, "loop 62;plain e;end;part e 16;plain b;", 2000);
        changesAre(long32, "loop 62;plain e;end;part e 17;plain b;", 2000);
        changesAre(long32, "loop 62;plain e;end;part e 32;stop;", 2000);
        RingChamber x = rung(long32, "loop 99;plain e;end;");
        fine(x, "the last is one within a lead", x.rowAt(2000), x.done(x.rowAt(1999), 14));
        refused(x, "no more", x.rowAt(2001), 1);
    }

    private static void changesAre(String book, String touch, int changes) {
        RingChamber x = with(book);
        Texts.touch(x, touch);
        fine(x, "changes of " + touch, x.ring(), changes);
        fine(x, "the last row is there", Math.min(x.rowAt(changes), 0), 0);
    }

    // ---- the promises

    private static void newObject() {
        says(1, "STAGE 4 without METHODS, RINGERS; no TOUCH, nothing RUNG, no MARKS; TRAYS are MISSING; an empty tape; the FRACTION 0 by 1; STATUS 0.");
        RingChamber x = new RingChamber();
        due("STATUS", x.status(), 0);
        due("top", x.top(), 0);
        due("bottom", x.bottom(), 1);
        fine(x, "STAGE", x.told(0), 4);
        fine(x, "METHODS", x.told(1), 0);
        fine(x, "all BELLS are SILENT", x.told(3), 15);
        refused(x, "no TOUCH", x.told(4), 6);
        refused(x, "nothing RUNG", x.told(5), 6);
        refused(x, "no MARKS", x.back(), 6);
        for (int t = 0; t < 4; t++) refused(x, "MISSING", x.read(t, 0), 2);
        refused(x, "the tape is empty", x.book(1), 1);
        refused(x, "the tape is empty", x.touch(1), 1);
        due("the tape is empty", x.feed(0, 0, 0, 0, 0), 20);
        fine(new RingChamber(), "a TOUCH of no STEPS", new RingChamber().touch(0), 0);

        says(2, "STATUS of the latest call that has one.");
        x = new RingChamber();
        x.told(6);
        due("refused", x.status(), 1);
        x.status();
        x.top();
        x.bottom();
        x.feed(0, 0, 0, 0, 0);
        x.fault(0);
        x.fault(7);
        due("those without one leave it", x.status(), 1);
        for (int i = 0; i < 44; i++) x.feed(0, 0, 0, 0, 0);
        due("a full tape", x.feed(0, 0, 0, 0, 0), NONE);
        due("those without one leave it", x.status(), 1);
        x.told(0);
        due("else 0", x.status(), 0);

        term("status(), top(), bottom(), feed(), fault() have none.");
        x.back();
        x.fault(9);
        due("fault()", x.status(), 6);
        x.feed(0, 0, 0, 0, 0);
        due("feed()", x.status(), 6);
        due("status()", x.status(), 6);
        x.top();
        x.bottom();
        due("top(), bottom()", x.status(), 6);
    }

    private static void fraction() {
        says(3, "The top of the FRACTION told latest.");
        RingChamber x = rung("stage 4;method a x;method b 14;", "plain a;plain b;");
        due("ahead of any", x.top(), 0);
        done(x, "evens", x.evens());
        due("one of two", x.top(), 1);
        Texts.touch(x, "plain a;");
        denied(x, "refused", x.evens(), 6);
        due("the one ahead", x.top(), 1);
        done(x, "odds", x.odds(0, 20, 16));
        due("told latest", x.top(), 0);

        says(4, "Its bottom, above 0.");
        x = rung("stage 4;method a x;method b 14;", "plain b;");
        due("ahead of any", x.bottom(), 1);
        done(x, "none of one", x.evens());
        due("0 by 1", x.bottom(), 1);
        done(x, "none of 20", x.odds(0, 20, 16));
        due("0 by 1", x.bottom(), 1);
        Texts.touch(x, "plain b;plain b;plain b;");
        x.ring();
        done(x, "one of three", x.evens());
        due("by 3", x.bottom(), 3);
        Texts.touch(x, "");
        x.ring();
        denied(x, "refused", x.evens(), 6);
        due("the one ahead", x.bottom(), 3);

        term("FRACTIONS are told by top() and bottom() without a common divisor, the bottom above 0; 0 is 0 by 1.");
        x = rung("stage 4;method a x;method b 14;", "loop 6;plain a;end;loop 3;plain b;end;");
        done(x, "7 of 9", x.evens());
        due("top", x.top(), 7);
        due("bottom", x.bottom(), 9);
        Texts.touch(x, "loop 6;plain a;end;loop 6;plain b;end;");
        x.ring();
        done(x, "9 of 12", x.evens());
        due("top", x.top(), 3);
        due("bottom", x.bottom(), 4);
        Texts.touch(x, "loop 6;plain a;end;");
        x.ring();
        done(x, "6 of 6", x.evens());
        due("top", x.top(), 1);
        due("bottom", x.bottom(), 1);
        Texts.touch(x, "plain b;");
        x.ring();
        done(x, "0 of 1", x.evens());
        due("top", x.top(), 0);
        due("bottom", x.bottom(), 1);
    }

    private static void feed() {
        says(9, "Twenty bytes come behind those on the tape, the highest of each int first: how many it has;");
        RingChamber x = new RingChamber();
        due("from the first byte", x.feed(0x73746167, 0x65203820, 0x20202020, 0x20202020, 0x20202020), 20);
        due("behind those", x.feed(0x3b72696e, 0x67657220, 0x61203820, 0x20202020, 0x2020203b), 40);
        fine(x, "to the last byte", x.book(40), 0);
        fine(x, "BELL 8 is rung", x.told(3), 127);
        due("on an empty tape again", x.feed(-1, LEAST, MOST, 0, 1), 20);
        refused(x, "bytes above 127 begin no TOKEN", x.book(20), 9);
        due("kind", x.fault(0), 1);
        due("place", x.fault(1), 0);

        says(9, "NONE if there would be more than 900.");
        x = new RingChamber();
        due("the text", x.feed(0x73746167, 0x6520353b, 0x20202020, 0x20202020, 0x20202020), 20);
        for (int i = 2; i <= 45; i++) due("feed", x.feed(0x20202020, 0x20202020, 0x20202020, 0x20202020, 0x20202020), 20 * i);
        due("920", x.feed(0x3f3f3f3f, 0, 0, 0, 0), NONE);
        due("920 again", x.feed(0x3f3f3f3f, 0, 0, 0, 0), NONE);
        refused(x, "there are 900", x.book(901), 1);
        fine(x, "and they are as they were", x.book(900), 0);
        fine(x, "STAGE", x.told(0), 5);
        due("empty then", x.feed(0, 0, 0, 0, 0), 20);
    }

    private static void book() {
        says(10, "The first n bytes of the tape (which is empty then) are the BOOK: how many METHODS");
        RingChamber x = new RingChamber();
        Texts.feed(x, "stage 5;stage 6;????");
        fine(x, "the first 8", x.book(8), 0);
        fine(x, "STAGE", x.told(0), 5);
        refused(x, "the others are gone", x.book(1), 1);
        Texts.feed(x, "stagestage 4;       ");
        refused(x, "a WORD ends with them", x.book(5), 9);
        due("the end", x.fault(1), 5);
        Texts.feed(x, "stage 44;           ");
        refused(x, "a NUMBER ends with them", x.book(7), 9);
        due("the end", x.fault(1), 7);
        due("it could stand there", x.fault(0), 2);
        Texts.feed(x, FOUR);
        fine(x, "all four", x.book(FOUR.length()), 4);
        refused(x, "empty", x.book(0), 9);

        says(10, "(1: n below 0, or more than the tape has, too;");
        x = new RingChamber();
        for (int n : new int[] {-1, 1, LEAST, MOST}) refused(x, "of an empty tape " + n, x.book(n), 1);
        Texts.feed(x, "stage 5;            ");
        for (int n : new int[] {-1, 21, 900, 901, LEAST, MOST}) refused(x, "of 20 " + n, x.book(n), 1);
        due("fault() is ahead of any still", x.fault(0), NONE);
        fine(x, "the tape is as it was", x.book(20), 0);

        says(10, "9: the old one stays)");
        x = rung(FOUR, "plain a;");
        refused(x, "faulty in its last TOKEN", Texts.book(x, "stage 5;ringer a 5;ringer b 5;"), 9);
        fine(x, "STAGE", x.told(0), 4);
        fine(x, "METHODS", x.told(1), 4);
        fine(x, "SILENT", x.told(3), 15);
        fine(x, "TOUCH", x.told(4), 1);
        fine(x, "RUNG", x.told(5), 8);
        refused(x, "the tape is empty all the same", x.book(1), 1);
        refused(x, "faulty in its last TOKEN", Texts.book(x, "stage 4;method z 14 14 14 bob 34 single 12"), 9);
        fine(x, "the METHOD", x.change(0, 2, 7), 1234);
        fine(x, "its NAME", Texts.touch(x, "plain a;"), 1);
        refused(x, "the new NAME", Texts.touch(x, "plain z;"), 9);
    }

    private static void touch() {
        says(11, "Likewise the TOUCH: how many STEPS");
        RingChamber x = with(FOUR);
        Texts.feed(x, "plain a;plain b;????");
        fine(x, "the first 8", x.touch(8), 1);
        refused(x, "the others are gone", x.touch(1), 1);
        fine(x, "0 bytes", x.touch(0), 0);
        fine(x, "there is one", x.told(4), 0);
        fine(x, "30", Texts.touch(x, times("plain a;", 30)), 30);
        fine(x, "end is none", Texts.touch(x, "loop 2;loop 2;end;end;"), 2);

        says(11, "(1: above 300, too; 9)");
        x = with(FOUR);
        for (int n : new int[] {-1, 1, LEAST, MOST}) refused(x, "of an empty tape " + n, x.touch(n), 1);
        Texts.feed(x, times(" ", 300));
        refused(x, "more than the tape has", x.touch(301), 1);
        Texts.feed(x, times(" ", 100));
        for (int n : new int[] {301, 400, 401}) refused(x, "of 400 " + n, x.touch(n), 1);
        due("fault() tells of the BOOK still", x.fault(0), 0);
        fine(x, "the tape is as it was", x.touch(300), 0);
        Texts.touch(x, "plain a;");
        x.ring();
        refused(x, "faulty", Texts.touch(x, "plain a;plain a;stop"), 9);
        fine(x, "the old one stays", x.told(4), 1);
        fine(x, "RUNG stays", x.told(5), 8);
        refused(x, "the tape is empty all the same", x.touch(1), 1);
        fine(x, "the old one is rung again", x.ring(), 8);

        says(11, "nothing is RUNG then.");
        fine(x, "the same", Texts.touch(x, "plain a;"), 1);
        refused(x, "told", x.told(5), 6);
        refused(x, "rowAt", x.rowAt(0), 6);
        refused(x, "isTrue", x.isTrue(), 6);
    }

    private static void fault() {
        says(12, "Of the latest book() or touch() with STATUS 0 or 9, what 0: the FAULT (0 without one), 1: its place (NONE without).");
        RingChamber x = new RingChamber();
        Texts.book(x, "stage 4;?");
        due("a FAULT", x.fault(0), 1);
        due("its place", x.fault(1), 8);
        x.book(-1);
        x.touch(301);
        due("STATUS 1 is not told of", x.fault(0), 1);
        due("STATUS 1 is not told of", x.fault(1), 8);
        Texts.book(x, "stage 4;");
        due("without one", x.fault(0), 0);
        due("without", x.fault(1), NONE);
        x.touch(1);
        due("STATUS 1 is not told of", x.fault(0), 0);
        x.book(0);
        due("a FAULT at the place 0", x.fault(0), 2);
        due("its place", x.fault(1), 0);
        x.touch(0);
        due("without one", x.fault(0), 0);
        due("without", x.fault(1), NONE);

        says(12, "NONE for others, and ahead of any.");
        for (int what : new int[] {-1, 2, LEAST, MOST}) due("what " + what, x.fault(what), NONE);
        Texts.book(x, "?");
        for (int what : new int[] {-1, 2, LEAST, MOST}) due("what " + what, x.fault(what), NONE);
        x = new RingChamber();
        due("ahead of any", x.fault(0), NONE);
        due("ahead of any", x.fault(1), NONE);
    }

    private static void told() {
        says(13, "STAGE (what 0); how many METHODS (1), ROWS (2: of the STAGE); the set of SILENT BELLS (3);");
        for (int stage = 4; stage <= 8; stage++) {
            RingChamber x = with("stage " + stage + ";ringer a 2;");
            fine(x, "STAGE", x.told(0), stage);
            fine(x, "METHODS", x.told(1), 0);
            fine(x, "ROWS", x.told(2), ROWS[stage]);
            fine(x, "SILENT", x.told(3), (1 << stage) - 3);
        }
        fine(with(FOUR), "METHODS", with(FOUR).told(1), 4);
        RingChamber y = with("stage 4;ringer a 1;ringer b 2;ringer c 3;ringer d 4;");
        fine(y, "none is SILENT", y.told(3), 0);

        says(13, "how many STEPS the TOUCH has (4; 6: there is none); how many CHANGES were RUNG (5; 6: nothing) (1).");
        RingChamber x = with(FOUR);
        refused(x, "no TOUCH", x.told(4), 6);
        refused(x, "nothing RUNG", x.told(5), 6);
        x.touch(0);
        fine(x, "a TOUCH of none", x.told(4), 0);
        refused(x, "not RUNG yet", x.told(5), 6);
        x.ring();
        fine(x, "no CHANGE RUNG", x.told(5), 0);
        for (int what : new int[] {-1, 6, LEAST, MOST}) refused(x, "what " + what, x.told(what), 1);
    }

    public static void main(String[] args) {
        trayTerms();
        trayPromises();
        pour();
        tokens();
        forms();
        names();
        stagesAndPlaces();
        methodsAndRingers();
        bookFaults();
        bookTaken();
        touches();
        touchNumbers();
        overInFront();
        newObject();
        fraction();
        feed();
        book();
        touch();
        fault();
        told();
        settle("TextEdgeTest", 1, 13);
    }
}
