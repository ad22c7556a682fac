import java.util.Random;

/** Runs of calls by chance: the class and the plain Model of the document must answer alike. */
public final class ModelTest {
    private static int wrong = 0;
    private static int calls = 0;
    /** How often each call ended with each status, to see that the runs reach them all. */
    private static final java.util.Map<String, java.util.Map<Integer, Integer>> STATUSES = new java.util.TreeMap<>();
    private static final java.util.Map<String, Integer> FAULTS = new java.util.TreeMap<>();

    private final Random r;
    private final RingChamber x = new RingChamber();
    private final Model m = new Model();
    private final long seed;
    private final int mostStage;

    private ModelTest(long seed, int mostStage) {
        this.seed = seed;
        this.mostStage = mostStage;
        this.r = new Random(seed);
    }

    private void same(String call, long got, long want) {
        calls++;
        String word = call.split(" ")[0];
        STATUSES.computeIfAbsent(word, w -> new java.util.TreeMap<>()).merge(m.status, 1, Integer::sum);
        if (m.faultKind > 0 && m.status == 9) FAULTS.merge(word + m.faultKind, 1, Integer::sum);
        boolean alike = got == want && x.status() == m.status && x.top() == m.top && x.bottom() == m.bottom
                && x.fault(0) == m.faultKind && x.fault(1) == m.faultPlace;
        if (!alike && wrong++ < 20) {
            System.out.println("seed " + seed + ": " + call + " answered " + got + " status " + x.status() + " "
                    + x.top() + "/" + x.bottom() + " fault " + x.fault(0) + "@" + x.fault(1) + ", due is " + want
                    + " status " + m.status + " " + m.top + "/" + m.bottom + " fault " + m.faultKind + "@" + m.faultPlace);
        }
    }

    private void same(String call, boolean got, boolean want) { same(call, got ? 1 : 0, want ? 1 : 0); }

    private int near(int most) {
        switch (r.nextInt(20)) {
            case 0: return -1;
            case 1: return most + 1;
            case 2: return most;
            case 3: return r.nextInt(12) == 0 ? Integer.MIN_VALUE : 0;
            case 4: return r.nextInt(12) == 0 ? Integer.MAX_VALUE : 1;
            default: return r.nextInt(Math.max(1, most + 1));
        }
    }

    private int row() {
        int rows = 1;
        for (int b = 2; b <= m.now.stage; b++) rows *= b;
        return near(rows - 1);
    }

    private int bell() { return near(m.now.stage); }
    private int method() { return near(Math.max(0, m.now.methods.size() - 1)); }
    private int rungRow() { return near(m.now.rung == null ? 3 : m.now.rung.size() - 1); }

    private int places() {
        if (r.nextInt(4) == 0) return near(9999);
        int n = 0;
        int p = 1;
        while (p <= m.now.stage) {
            if (p == m.now.stage || r.nextInt(2) == 0) n = n * 10 + p++;
            else p += 2;
        }
        return n;
    }

    private void feed(String text) {
        int[] all = Texts.ints(text);
        for (int i = 0; i < all.length; i += 5) {
            int got = x.feed(all[i], all[i + 1], all[i + 2], all[i + 3], all[i + 4]);
            same("feed", got, m.feed(all[i], all[i + 1], all[i + 2], all[i + 3], all[i + 4]));
        }
    }

    private void texts() {
        int kind = r.nextInt(20);
        if (kind < 5) {
            int stage = r.nextInt(25) == 0 ? r.nextInt(12) : 4 + r.nextInt(mostStage - 3);
            String text = Texts.book(r, stage);
            feed(text);
            int n = r.nextInt(20) == 0 ? near(text.length()) : text.length();
            same("book " + text, x.book(n), m.book(n));
        } else if (kind < 19) {
            String text = Texts.touch(r, m.now.methods.size());
            feed(text);
            int n = r.nextInt(20) == 0 ? near(text.length()) : text.length();
            same("touch " + text, x.touch(n), m.touch(n));
            if (r.nextInt(6) > 0) same("ring " + text, x.ring(), m.ring());
        } else {
            int a = r.nextInt();
            same("feed", x.feed(a, a * 3, 1, 2, 3), m.feed(a, a * 3, 1, 2, 3));
            int n = near(40);
            if (r.nextBoolean()) same("book", x.book(n), m.book(n));
            else same("touch", x.touch(n), m.touch(n));
        }
    }

    private void trays() {
        int t = near(3);
        switch (r.nextInt(6)) {
            case 0: {
                int sort = near(3);
                int many = r.nextInt(8) == 0 ? near(60) : near(10);
                same("tray", x.tray(t, sort, many), m.tray(t, sort, many));
                break;
            }
            case 1: {
                int p = near(10);
                long v = r.nextInt(3) == 0 ? r.nextLong() : near(300);
                same("write", x.write(t, p, v), m.write(t, p, v));
                break;
            }
            case 2: {
                int p = near(10);
                same("read", x.read(t, p), m.read(t, p));
                break;
            }
            case 3: {
                int p = near(5), to = near(3), at = near(5), many = near(6);
                same("pour", x.pour(t, p, to, at, many), m.pour(t, p, to, at, many));
                break;
            }
            case 4:
                bells(r.nextInt(2) == 0);
                same("number", x.number(t), m.number(t));
                break;
            default:
                bells(false);
                same("music", x.music(t), m.music(t));
        }
    }

    /** Bells into the first trays: a row, or some bells and any. */
    private void bells(boolean row) {
        if (r.nextInt(3) == 0) return;
        for (int t = 0; t < 4; t++) {
            if (m.trays[t] == null || r.nextInt(4) == 0) same("tray", x.tray(t, t % 4, 8), m.tray(t, t % 4, 8));
            java.util.List<Integer> order = new java.util.ArrayList<>();
            for (int b = 1; b <= m.now.stage; b++) order.add(b);
            java.util.Collections.shuffle(order, r);
            for (int p = 0; p < m.now.stage && p < m.trays[t].length; p++) {
                int v = row || r.nextInt(4) == 0 ? order.get(p) : 0;
                if (r.nextInt(60) == 0) v = near(9);
                same("write", x.write(t, p, v), m.write(t, p, v));
            }
        }
    }

    private void rows() {
        int a = row(), b = row();
        switch (r.nextInt(10)) {
            case 0: { int p = bell(); same("bell", x.bell(a, p), m.bell(a, p)); break; }
            case 1: same("product", x.product(a, b), m.product(a, b)); break;
            case 2: same("inverse", x.inverse(a), m.inverse(a)); break;
            case 3: same("order", x.order(a), m.order(a)); break;
            case 4: same("even", x.even(a), m.even(a)); break;
            case 5: { int p = places(); same("done " + p, x.done(a, p), m.done(a, p)); break; }
            case 6: { int n = near(99); same("power", x.power(a, n), m.power(a, n)); break; }
            case 7: { int n = bell(); same("cycles", x.cycles(a, n), m.cycles(a, n)); break; }
            case 8: same("distance", x.distance(a, b), m.distance(a, b)); break;
            default: {
                if (r.nextInt(3) > 0) {
                    int p = places();
                    int to = x.done(a, p);
                    m.done(a, p);
                    if (to >= 0) b = to;
                }
                same("between", x.between(a, b), m.between(a, b));
            }
        }
    }

    private void methods() {
        int i = method(), c = near(2), a = row();
        switch (r.nextInt(11)) {
            case 0: same("changes", x.changes(i), m.changes(i)); break;
            case 1: { int k = near(12); same("change", x.change(i, c, k), m.change(i, c, k)); break; }
            case 2: same("head", x.head(i, c), m.head(i, c)); break;
            case 3: same("course", x.course(i, c), m.course(i, c)); break;
            case 4: same("fixed", x.fixed(i, c), m.fixed(i, c)); break;
            case 5: same("symmetric", x.symmetric(i), m.symmetric(i)); break;
            case 6: same("leadTrue", x.leadTrue(i), m.leadTrue(i)); break;
            case 7: same("falseAgainst", x.falseAgainst(i, a), m.falseAgainst(i, a)); break;
            case 8: if (m.now.stage < 7) same("falses", x.falses(i), m.falses(i)); break;
            case 9: same("leadsTo", x.leadsTo(i, a), m.leadsTo(i, a)); break;
            default: same("inLead", x.inLead(i, a), m.inLead(i, a));
        }
    }

    private void rung() {
        int b = bell(), k = rungRow();
        switch (r.nextInt(17)) {
            case 0: same("ring", x.ring(), m.ring()); break;
            case 1: same("rowAt", x.rowAt(k), m.rowAt(k)); break;
            case 2: same("round", x.round(), m.round()); break;
            case 3: same("isTrue", x.isTrue(), m.isTrue()); break;
            case 4: { int w = near(1); same("falseAt", x.falseAt(w), m.falseAt(w)); break; }
            case 5: same("repeats", x.repeats(), m.repeats()); break;
            case 6: same("place", x.place(b, k), m.place(b, k)); break;
            case 7: { int p = bell(); same("blows", x.blows(b, p), m.blows(b, p)); break; }
            case 8: { int n = near(9); same("runs", x.runs(n), m.runs(n)); break; }
            case 9: same("dodges", x.dodges(b), m.dodges(b)); break;
            case 10: same("lies", x.lies(b), m.lies(b)); break;
            case 11: same("backward", x.backward(), m.backward()); break;
            case 12: { int n = near(8); same("heard", x.heard(k, n), m.heard(k, n)); break; }
            case 13: same("heardAlike", x.heardAlike(), m.heardAlike()); break;
            case 14: same("evens", x.evens(), m.evens()); break;
            case 15: { int s = near(9999), h = near(16); same("strayed", x.strayed(s, h), m.strayed(s, h)); break; }
            default: {
                int s = near(9999), many = near(20), h = r.nextInt(3) == 0 ? near(16) : 1;
                same("odds", x.odds(s, many, h), m.odds(s, many, h));
            }
        }
    }

    private void searches() {
        switch (r.nextInt(5)) {
            case 0: { int a = row(); same("way", x.way(a), m.way(a)); break; }
            case 1: same("extent", x.extent(), m.extent()); break;
            case 2: {
                int i = method(), leads = near(m.now.stage > 6 ? 5 : 7), set = near(7);
                same("compositions", x.compositions(i, leads, set), m.compositions(i, leads, set));
                break;
            }
            case 3: { int k = near(6), w = near(1); same("wayAt", x.wayAt(k, w), m.wayAt(k, w)); break; }
            default: { int k = near(6); same("callAt", x.callAt(k), m.callAt(k)); }
        }
    }

    private void begin() {
        String text = Texts.book(r, 4 + r.nextInt(mostStage - 3));
        feed(text);
        same("book " + text, x.book(text.length()), m.book(text.length()));
        String steps = Texts.touch(r, m.now.methods.size());
        feed(steps);
        same("touch " + steps, x.touch(steps.length()), m.touch(steps.length()));
        same("ring", x.ring(), m.ring());
    }

    private void go(int many) {
        for (int i = 0; i < many; i++) {
            switch (r.nextInt(14)) {
                case 0: if (r.nextInt(3) == 0) texts(); break;
                case 1: case 2: trays(); break;
                case 3: case 4: rows(); break;
                case 5: case 6: methods(); break;
                case 7: { int w = near(5); same("told", x.told(w), m.told(w)); break; }
                case 8: if (m.now.stage < 7 || r.nextInt(9) == 0) searches(); break;
                case 9: {
                    if (r.nextInt(3) > 0) break;
                    if (r.nextBoolean()) same("mark", x.mark(), m.mark());
                    else same("back", x.back(), m.back());
                    break;
                }
                default: rung();
            }
        }
    }

    public static void main(String[] args) {
        int runs = args.length > 0 ? Integer.parseInt(args[0]) : 400;
        long first = args.length > 1 ? Long.parseLong(args[1]) : 1;
        for (int i = 0; i < runs; i++) {
            int most = i % 20 == 0 ? 8 : i % 3 == 0 ? 6 : 5;
            ModelTest run = new ModelTest(first + i, most);
            if (i % 10 > 0) run.begin();
            run.go(300);
        }
        System.out.println("ModelTest: " + calls + " calls, " + wrong + " wrong");
        if (args.length > 2) System.out.println(STATUSES.toString().replace("},", "},\n") + "\n" + FAULTS);
        if (wrong > 0) System.exit(1);
    }
}
