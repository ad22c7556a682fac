import java.util.Random;

/** Texts put on the tape of a desk, and books and touches made by chance. */
final class Texts {
    private static final String[] NAMES = {"a", "b", "cc", "plainb", "eightabc", "z"};

    private Texts() { }

    /** The ints that feed() takes for the bytes of a text, the last ones filled up with zeros. */
    static int[] ints(String text) {
        int[] all = new int[(text.length() + 19) / 20 * 5];
        for (int i = 0; i < text.length(); i++) all[i / 4] |= (text.charAt(i) & 255) << 24 - i % 4 * 8;
        return all;
    }

    static void feed(RingChamber desk, String text) {
        int[] all = ints(text);
        for (int i = 0; i < all.length; i += 5) desk.feed(all[i], all[i + 1], all[i + 2], all[i + 3], all[i + 4]);
    }

    static int book(RingChamber desk, String text) {
        feed(desk, text);
        return desk.book(text.length());
    }

    static int touch(RingChamber desk, String text) {
        feed(desk, text);
        return desk.touch(text.length());
    }

    private static String blank(Random r) { return r.nextInt(8) == 0 ? "\n  " : " "; }

    private static String name(Random r) { return NAMES[r.nextInt(NAMES.length)]; }

    /** Places that can be, but for some few. */
    private static String places(Random r, int stage) {
        if (r.nextInt(400) == 0) return "" + r.nextInt(10000);
        StringBuilder s = new StringBuilder();
        int p = 1;
        while (p <= stage) {
            if (p == stage || r.nextInt(3) == 0) { s.append(p); p++; } else { p += 2; }
        }
        return s.length() == 0 ? "x" : s.toString();
    }

    /** A method like those that are rung: the treble hunts, so that courses are true and come round. */
    private static String bobMethod(Random r, int stage) {
        StringBuilder s = new StringBuilder();
        for (int k = 0; k < stage / 2; k++) s.append(" x 1").append(stage);
        s.append(" back ").append(stage > 4 || r.nextBoolean() ? "12" : "14");
        s.append(" bob ").append(stage > 4 && r.nextBoolean() ? "1234" : "14");
        s.append(" single ").append(stage > 4 ? "123" + stage : "1234");
        return s.toString();
    }

    static String book(Random r, int stage) {
        StringBuilder s = new StringBuilder("stage" + blank(r) + stage + ";");
        int parts = r.nextInt(12) == 0 ? 0 : 1 + r.nextInt(10);
        int methods = 0;
        for (int i = 0; i < parts; i++) {
            if (methods == 0 || methods < 4 && r.nextInt(4) == 0 || r.nextInt(60) == 0) {
                String name = r.nextInt(15) == 0 ? name(r) : NAMES[methods % NAMES.length];
                methods++;
                s.append("method").append(blank(r)).append(name);
                if (stage % 2 == 0 && r.nextInt(3) == 0) {
                    s.append(bobMethod(r, stage)).append(';');
                    continue;
                }
                int told = 1 + r.nextInt(r.nextInt(4) == 0 ? 34 : r.nextInt(2) == 0 ? 2 : 7);
                for (int k = 0; k < told; k++) s.append(blank(r)).append(places(r, stage));
                if (r.nextInt(2) == 0) s.append(" back ").append(places(r, stage));
                if (r.nextInt(3) > 0) s.append(" bob ").append(places(r, stage));
                if (r.nextInt(3) > 0) s.append(" single ").append(places(r, stage));
            } else if (i - methods < stage || r.nextInt(9) == 0) {
                s.append("ringer ").append("r").append((char) ('a' + i)).append(' ');
                s.append(r.nextInt(40) == 0 ? r.nextInt(10) : 1 + (i - methods) % Math.max(1, stage));
            } else {
                break;
            }
            s.append(';').append(r.nextInt(6) == 0 ? " " : "");
        }
        return spoil(r, s.toString(), 900);
    }

    static String touch(Random r, int methods) {
        StringBuilder s = new StringBuilder();
        int depth = 0;
        int steps = r.nextInt(5) == 0 ? 25 + r.nextInt(9) : r.nextInt(8);
        for (int i = 0; i < steps; i++) {
            String name = r.nextInt(90) == 0 || methods < 1 ? name(r) : NAMES[r.nextInt(methods)];
            int what = r.nextInt(r.nextInt(4) == 0 ? 13 : 10);
            if (what < 3) s.append("plain ").append(name);
            else if (what < 5) s.append("bob ").append(name);
            else if (what < 7) s.append("single ").append(name);
            else if (what < 8) s.append("part ").append(name).append(' ').append(r.nextInt(9) == 0 ? r.nextInt(9) : 1);
            else if (what < 10 && depth < 3 || what == 11) {
                s.append("loop ").append(r.nextInt(4) == 0 ? r.nextInt(110) : 1 + r.nextInt(5));
                depth++;
            } else if (what == 12) s.append("stop");
            else if (depth > 0) { s.append("end"); depth--; }
            else s.append("plain ").append(name);
            s.append(';');
        }
        for (; depth > 0; depth--) s.append("end;");
        String text = spoil(r, s.toString(), 300);
        return text.length() > 300 ? text.substring(0, 300) : text;
    }

    private static String spoil(Random r, String text, int most) {
        String s = text.length() > most ? text.substring(0, most) : text;
        if (r.nextInt(9) > 0 || s.isEmpty()) return s;
        int i = r.nextInt(s.length());
        String signs = "x;1 90,a\n{m";
        switch (r.nextInt(3)) {
            case 0: return s.substring(0, i);
            case 1: return s.substring(0, i) + s.substring(i + 1);
            default: return s.substring(0, i) + signs.charAt(r.nextInt(signs.length())) + s.substring(i + 1);
        }
    }
}
