import java.util.ArrayDeque;
import java.util.ArrayList;
import java.util.Arrays;
import java.util.HashMap;
import java.util.HashSet;
import java.util.LinkedHashMap;
import java.util.List;
import java.util.Map;
import java.util.Set;

/**
 * The document once more, in the plainest form and without any regard for speed: rows are texts of
 * digits, all rows are written out in a list, compositions are rung row by row. ModelTest asks it and
 * RingChamber the same things.
 */
final class Model {
    private static final class Halt extends Exception {
        final int number;
        Halt(int number) { this.number = number; }
    }

    private static final class Fault extends Exception {
        final int kind;
        final int place;
        Fault(int kind, int place) { this.kind = kind; this.place = place; }
    }

    /** A change is its set of staying places as text, "" for x. */
    static final class Meth {
        String name;
        List<String> lead = new ArrayList<>();
        String[] last = new String[3];
        List<String> withCall(int call) {
            List<String> all = new ArrayList<>(lead);
            all.set(all.size() - 1, last[call]);
            return all;
        }
    }

    static final class State implements Cloneable {
        int stage = 4;
        List<Meth> methods = new ArrayList<>();
        Set<Integer> ringing = new HashSet<>();
        List<Object[]> touch = null;
        int touchSteps = 0;
        List<String> rungChanges = null;
        List<String> rung = null;
        State copy() {
            State s = new State();
            s.stage = stage; s.methods = methods; s.ringing = ringing; s.touch = touch;
            s.touchSteps = touchSteps; s.rungChanges = rungChanges; s.rung = rung;
            return s;
        }
    }

    State now = new State();
    int status = 0;
    long top = 0, bottom = 1;
    long[][] trays = new long[4][];
    int[] sorts = new int[4];
    List<Integer> tape = new ArrayList<>();
    int faultKind = -1, faultPlace = -1;
    List<int[]> lastWay = new ArrayList<>();
    List<Integer> firstCalls = new ArrayList<>();
    ArrayDeque<State> marks = new ArrayDeque<>();

    private static final Map<Integer, List<String>> ALL = new HashMap<>();
    private static final Map<Integer, Map<String, Integer>> NUMBERS = new HashMap<>();

    private static void spell(String done, String left, List<String> into) {
        if (left.isEmpty()) into.add(done);
        for (int i = 0; i < left.length(); i++)
            spell(done + left.charAt(i), left.substring(0, i) + left.substring(i + 1), into);
    }

    private List<String> all() {
        if (!ALL.containsKey(now.stage)) {
            List<String> list = new ArrayList<>();
            spell("", rounds(), list);
            Map<String, Integer> numbers = new HashMap<>();
            for (String row : list) numbers.put(row, numbers.size());
            ALL.put(now.stage, list);
            NUMBERS.put(now.stage, numbers);
        }
        return ALL.get(now.stage);
    }

    private int num(String row) { all(); return NUMBERS.get(now.stage).get(row); }
    private String rounds() { return "12345678".substring(0, now.stage); }

    private String row(int n) throws Halt {
        if (n < 0 || n >= all().size()) throw new Halt(1);
        return all().get(n);
    }

    private static String times(String a, String b) {
        StringBuilder s = new StringBuilder();
        for (char c : b.toCharArray()) s.append(a.charAt(c - '1'));
        return s.toString();
    }

    private String inv(String a) {
        for (String b : all()) if (times(a, b).equals(rounds())) return b;
        throw new IllegalStateException();
    }

    /** The row behind a change, or null if the places can't be. */
    private String make(String row, String stays) {
        char[] out = row.toCharArray();
        int p = 1;
        while (p <= row.length()) {
            if (stays.indexOf('0' + p) >= 0) { p++; continue; }
            if (p == row.length() || stays.indexOf('0' + p + 1) >= 0) return null;
            out[p - 1] = row.charAt(p);
            out[p] = row.charAt(p - 1);
            p += 2;
        }
        return new String(out);
    }

    private boolean fitPlaces(String digits) {
        char before = '0';
        for (char c : digits.toCharArray()) {
            if (c <= before || c > '0' + now.stage) return false;
            before = c;
        }
        return make(rounds(), digits) != null;
    }

    private static boolean fitPlaces(String digits, int stage) {
        Model m = new Model();
        m.now.stage = stage;
        return m.fitPlaces(digits);
    }

    // ---- the call's frame

    private interface Act { int go() throws Halt; }

    private int with(Act act) {
        try {
            int v = act.go();
            status = 0;
            return v;
        } catch (Halt h) {
            status = h.number;
            return -1;
        }
    }

    private boolean flag(Act act) { return with(act) != -1; }

    private static void need(boolean holds, int otherwise) throws Halt {
        if (!holds) throw new Halt(otherwise);
    }

    private void needBell(int b) throws Halt { need(b >= 1 && b <= now.stage, 1); }
    private void needRung() throws Halt { need(now.rung != null, 6); }
    private Meth meth(int m) throws Halt { need(m >= 0 && m < now.methods.size(), 1); return now.methods.get(m); }
    private void needCall(int c) throws Halt { need(c >= 0 && c <= 2, 1); }

    private String rungRow(int k) throws Halt {
        need(k >= 0, 1);
        needRung();
        need(k < now.rung.size(), 1);
        return now.rung.get(k);
    }

    private void fraction(long a, long b) {
        for (long d = b; d >= 1; d--)
            if (a % d == 0 && b % d == 0) { top = a / d; bottom = b / d; return; }
    }

    // ---- trays

    boolean tray(int t, int sort, int many) {
        return flag(() -> {
            need(t >= 0 && t < 4 && sort >= 0 && sort < 4 && many >= 0 && many <= 60, 1);
            trays[t] = new long[many];
            sorts[t] = sort;
            return 1;
        });
    }

    private void needPlace(int t, long p, long many) throws Halt {
        need(t >= 0 && t < 4, 1);
        need(trays[t] != null, 2);
        need(p >= 0 && p + many <= trays[t].length, 3);
    }

    boolean write(int t, int p, long v) {
        return flag(() -> {
            needPlace(t, p, 1);
            int bits = 8 << sorts[t];
            trays[t][p] = v << 64 - bits >> 64 - bits;
            return 1;
        });
    }

    long read(int t, int p) {
        long[] out = {-1};
        with(() -> { needPlace(t, p, 1); out[0] = trays[t][p]; return 1; });
        return out[0];
    }

    boolean pour(int from, int p, int to, int at, int many) {
        return flag(() -> {
            need(from >= 0 && from < 4 && to >= 0 && to < 4 && p >= 0 && at >= 0 && many >= 0, 1);
            need(trays[from] != null && trays[to] != null, 2);
            need(sorts[from] == sorts[to], 8);
            needPlace(from, p, many);
            needPlace(to, at, many);
            long[] copy = trays[from].clone();
            for (int i = 0; i < many; i++) trays[to][at + i] = copy[p + i];
            return 1;
        });
    }

    // ---- texts

    int feed(int... five) {
        if (tape.size() + 20 > 900) return -1;
        for (int v : five) for (int i = 3; i >= 0; i--) tape.add(v >> 8 * i & 255);
        return tape.size();
    }

    private List<Object[]> tokens;
    private int at;
    private static final Set<String> KEPT = new HashSet<>(Arrays.asList("stage", "method", "x", "back",
            "bob", "single", "ringer", "plain", "part", "loop", "end", "stop"));

    /** Tokens are {text, place}; "" is the end, "?" nothing that can begin one. */
    private void cut(List<Integer> bytes) {
        tokens = new ArrayList<>();
        at = 0;
        int i = 0;
        while (i < bytes.size()) {
            int c = bytes.get(i);
            if (c == 10 || c == 32) { i++; continue; }
            StringBuilder s = new StringBuilder();
            int begin = i;
            if (c >= 'a' && c <= 'z') {
                while (i < bytes.size() && bytes.get(i) >= 'a' && bytes.get(i) <= 'z') s.append((char) (int) bytes.get(i++));
            } else if (c >= '0' && c <= '9') {
                while (i < bytes.size() && bytes.get(i) >= '0' && bytes.get(i) <= '9') s.append((char) (int) bytes.get(i++));
                if (s.length() > 8) s = new StringBuilder("?");
            } else {
                s.append(c == ';' ? ";" : "?");
                i++;
            }
            tokens.add(new Object[] {s.toString(), begin});
        }
        tokens.add(new Object[] {"", bytes.size()});
    }

    private String see() { return (String) tokens.get(at)[0]; }
    private Fault bad(int kind) { return new Fault(see().equals("?") ? 1 : kind, (Integer) tokens.get(at)[1]); }
    private boolean isNumber() { return !see().isEmpty() && Character.isDigit(see().charAt(0)); }
    private String must(String word) throws Fault { if (!see().equals(word)) throw bad(2); at++; return word; }

    private String name() throws Fault {
        if (!see().matches("[a-z]{1,8}") || KEPT.contains(see())) throw bad(2);
        return see();
    }

    private int numberIn(int least, int most) throws Fault {
        if (!isNumber()) throw bad(2);
        int v = Integer.parseInt(see());
        if (v < least || v > most) throw bad(4);
        return v;
    }

    private String places(int stage) throws Fault {
        if (!see().equals("x") && !isNumber()) throw bad(2);
        String digits = see().equals("x") ? "" : see();
        if (!fitPlaces(digits, stage)) throw bad(4);
        return digits;
    }

    private State readBook() throws Fault {
        State s = new State();
        must("stage");
        s.stage = numberIn(4, 8);
        at++;
        must(";");
        Set<String> names = new HashSet<>();
        int ringers = 0;
        while (!see().isEmpty()) {
            if (see().equals("method")) {
                if (s.methods.size() == 4) throw bad(6);
                at++;
                Meth m = new Meth();
                m.name = name();
                if (!names.add(m.name)) throw bad(3);
                at++;
                do {
                    String p = places(s.stage);
                    if (m.lead.size() == 32) throw bad(6);
                    m.lead.add(p);
                    at++;
                } while (see().equals("x") || isNumber());
                if (see().equals("back")) {
                    if (m.lead.size() > 16) throw bad(6);
                    at++;
                    for (int i = m.lead.size() - 2; i >= 0; i--) m.lead.add(m.lead.get(i));
                    m.lead.add(places(s.stage));
                    at++;
                }
                String last = m.lead.get(m.lead.size() - 1);
                Arrays.fill(m.last, last);
                if (see().equals("bob")) { at++; m.last[1] = places(s.stage); at++; }
                if (see().equals("single")) { at++; m.last[2] = places(s.stage); at++; }
                must(";");
                s.methods.add(m);
            } else if (see().equals("ringer")) {
                if (ringers++ == 8) throw bad(6);
                at++;
                String name = name();
                if (!names.add(name)) throw bad(3);
                at++;
                int bell = numberIn(1, s.stage);
                if (!s.ringing.add(bell)) throw bad(5);
                at++;
                must(";");
            } else {
                throw bad(2);
            }
        }
        return s;
    }

    private int stepsRead;

    /** Steps are {word, method, number or body}. */
    private List<Object[]> readSteps(int loops) throws Fault {
        List<Object[]> steps = new ArrayList<>();
        while (true) {
            String word = see();
            if (word.isEmpty() && loops == 0 || word.equals("end") && loops > 0) return steps;
            if (!Arrays.asList("plain", "bob", "single", "part", "loop", "stop").contains(word)) throw bad(2);
            if (stepsRead == 30) throw bad(6);
            if (word.equals("loop") && loops == 3) throw bad(7);
            stepsRead++;
            at++;
            Object[] step = {word, null, null, null};
            if (word.equals("loop")) {
                step[2] = numberIn(1, 99);
                at++;
                must(";");
                step[3] = readSteps(loops + 1);
                must("end");
            } else if (!word.equals("stop")) {
                String name = name();
                Meth m = null;
                for (Meth each : now.methods) if (each.name.equals(name)) m = each;
                if (m == null) throw bad(3);
                at++;
                step[1] = m;
                if (word.equals("part")) { step[2] = numberIn(1, m.lead.size()); at++; }
            }
            must(";");
            steps.add(step);
        }
    }

    private int text(int n, int most, boolean isBook) {
        return with(() -> {
            need(n >= 0 && n <= tape.size() && n <= most, 1);
            cut(new ArrayList<>(tape.subList(0, n)));
            tape.clear();
            faultKind = 0;
            faultPlace = -1;
            try {
                if (isBook) {
                    now = readBook();
                    return now.methods.size();
                }
                stepsRead = 0;
                List<Object[]> steps = readSteps(0);
                now = now.copy();
                now.touch = steps;
                now.touchSteps = stepsRead;
                now.rung = null;
                return stepsRead;
            } catch (Fault f) {
                faultKind = f.kind;
                faultPlace = f.place;
                throw new Halt(9);
            }
        });
    }

    int book(int n) { return text(n, 900, true); }
    int touch(int n) { return text(n, 300, false); }
    int fault(int what) { return what == 0 ? faultKind : what == 1 ? faultPlace : -1; }

    int told(int what) {
        return with(() -> {
            need(what >= 0 && what <= 5, 1);
            if (what == 4) need(now.touch != null, 6);
            if (what == 5) needRung();
            int silent = 0;
            for (int b = 1; b <= now.stage; b++) if (!now.ringing.contains(b)) silent += 1 << b - 1;
            return new int[] {now.stage, now.methods.size(), all().size(), silent, now.touchSteps,
                now.rung == null ? 0 : now.rung.size() - 1}[what];
        });
    }

    // ---- rows

    int bell(int r, int p) { return with(() -> { needBell(p); return row(r).charAt(p - 1) - '0'; }); }

    private String spelled(int t, int least) throws Halt {
        needPlace(t, 0, now.stage);
        StringBuilder s = new StringBuilder();
        for (int i = 0; i < now.stage; i++) {
            need(trays[t][i] >= least && trays[t][i] <= now.stage, 5);
            s.append(trays[t][i]);
        }
        return s.toString();
    }

    int number(int t) {
        return with(() -> {
            String s = spelled(t, 1);
            need(all().contains(s), 5);
            return num(s);
        });
    }

    int product(int a, int b) { return with(() -> num(times(row(a), row(b)))); }
    int inverse(int r) { return with(() -> num(inv(row(r)))); }

    private int ord(String r) {
        int n = 1;
        for (String p = r; !p.equals(rounds()); p = times(p, r)) n++;
        return n;
    }

    int order(int r) { return with(() -> ord(row(r))); }

    private static int unordered(String r) {
        int n = 0;
        for (int i = 0; i < r.length(); i++) for (int j = i + 1; j < r.length(); j++) if (r.charAt(i) > r.charAt(j)) n++;
        return n;
    }

    int even(int r) { return with(() -> 1 - unordered(row(r)) % 2); }

    int done(int r, int places) {
        return with(() -> {
            String from = row(r);
            need(places >= 0, 7);
            String digits = places == 0 ? "" : "" + places;
            need(fitPlaces(digits), 7);
            return num(make(from, digits));
        });
    }

    int power(int r, int n) {
        return with(() -> {
            String one = row(r);
            need(n >= 0 && n <= 99, 1);
            String p = rounds();
            for (int i = 0; i < n; i++) p = times(p, one);
            return num(p);
        });
    }

    int cycles(int r, int length) {
        return with(() -> {
            String s = row(r);
            needBell(length);
            int places = 0;
            for (int p = 1; p <= now.stage; p++) {
                int n = 0;
                int q = p;
                do { q = s.charAt(q - 1) - '0'; n++; } while (q != p);
                if (n == length) places++;
            }
            return places / length;
        });
    }

    int distance(int a, int b) {
        return with(() -> {
            String x = row(a), y = row(b);
            int n = 0;
            for (char c : rounds().toCharArray())
                for (char d : rounds().toCharArray())
                    if (x.indexOf(c) < x.indexOf(d) && y.indexOf(c) > y.indexOf(d)) n++;
            return n;
        });
    }

    int between(int a, int b) {
        return with(() -> {
            String x = row(a), y = row(b);
            for (int set = 0; set < 1 << now.stage; set++) {
                StringBuilder s = new StringBuilder();
                for (int p = 1; p <= now.stage; p++) if ((set >> p - 1 & 1) == 1) s.append(p);
                if (y.equals(make(x, s.toString()))) return s.length() == 0 ? 0 : Integer.parseInt(s.toString());
            }
            throw new Halt(7);
        });
    }

    // ---- methods

    int changes(int m) { return with(() -> meth(m).lead.size()); }

    int change(int m, int c, int k) {
        return with(() -> {
            Meth method = meth(m);
            needCall(c);
            need(k >= 0 && k < method.lead.size(), 1);
            String s = method.withCall(c).get(k);
            return s.isEmpty() ? 0 : Integer.parseInt(s);
        });
    }

    private List<String> lead(Meth m, int call, String from) {
        List<String> rows = new ArrayList<>();
        String r = from;
        for (String c : m.withCall(call)) { r = make(r, c); rows.add(r); }
        return rows;
    }

    private String end(Meth m, int call, String from) {
        List<String> rows = lead(m, call, from);
        return rows.get(rows.size() - 1);
    }

    private String hd(int m, int c) throws Halt { Meth method = meth(m); needCall(c); return end(method, c, rounds()); }
    int head(int m, int c) { return with(() -> num(hd(m, c))); }

    int course(int m, int c) {
        return with(() -> {
            hd(m, c);
            int n = 1;
            for (String r = hd(m, c); !r.equals(rounds()); r = end(meth(m), c, r)) n++;
            return n;
        });
    }

    int fixed(int m, int c) {
        return with(() -> {
            String h = hd(m, c);
            int set = 0;
            for (int p = 1; p <= now.stage; p++) if (h.charAt(p - 1) - '0' == p) set += 1 << p - 1;
            return set;
        });
    }

    private static boolean palindrome(List<String> list) {
        List<String> back = new ArrayList<>(list);
        java.util.Collections.reverse(back);
        return back.equals(list);
    }

    int symmetric(int m) { return with(() -> palindrome(meth(m).lead.subList(0, meth(m).lead.size() - 1)) ? 1 : 0); }
    int leadTrue(int m) { return with(() -> unlike(lead(meth(m), 0, rounds())) ? 1 : 0); }
    private static boolean unlike(List<String> rows) { return new HashSet<>(rows).size() == rows.size(); }

    private boolean isFalse(Meth m, String from) {
        if (from.equals(rounds())) return false;
        Set<String> own = new HashSet<>(lead(m, 0, rounds()));
        for (String r : lead(m, 0, from)) if (own.contains(r)) return true;
        return false;
    }

    int falseAgainst(int m, int r) { return with(() -> isFalse(meth(m), row(r)) ? 1 : 0); }

    int falses(int m) {
        return with(() -> {
            int n = 0;
            Meth method = meth(m);
            for (String r : all()) if (isFalse(method, r)) n++;
            return n;
        });
    }

    int leadsTo(int m, int to) {
        return with(() -> {
            Meth method = meth(m);
            String sought = row(to);
            String r = rounds();
            for (int n = 0; n <= 50; n++) {
                if (r.equals(sought)) return n;
                r = end(method, 0, r);
            }
            throw new Halt(6);
        });
    }

    int inLead(int m, int r) {
        return with(() -> {
            int k = lead(meth(m), 0, rounds()).indexOf(row(r));
            need(k >= 0, 6);
            return k + 1;
        });
    }

    // ---- the touch

    private int steps;

    /** False when all is over. */
    private boolean go(List<Object[]> body, List<String> into) {
        for (Object[] step : body) {
            if (steps == 300 || step[0].equals("stop")) return false;
            steps++;
            if (step[0].equals("loop")) {
                @SuppressWarnings("unchecked")
                List<Object[]> inner = (List<Object[]>) step[3];
                for (int i = 0; i < (Integer) step[2]; i++) if (!go(inner, into)) return false;
                continue;
            }
            Meth m = (Meth) step[1];
            int call = step[0].equals("bob") ? 1 : step[0].equals("single") ? 2 : 0;
            List<String> changes = m.withCall(call);
            if (step[0].equals("part")) changes = changes.subList(0, (Integer) step[2]);
            for (String c : changes) {
                if (into.size() == 2000) return false;
                into.add(c);
            }
        }
        return true;
    }

    private List<String> flat() throws Halt {
        need(now.touch != null, 6);
        List<String> out = new ArrayList<>();
        steps = 0;
        go(now.touch, out);
        return out;
    }

    int ring() {
        return with(() -> {
            List<String> changes = flat();
            now = now.copy();
            now.rungChanges = changes;
            now.rung = new ArrayList<>();
            String r = rounds();
            now.rung.add(r);
            for (String c : changes) { r = make(r, c); now.rung.add(r); }
            return changes.size();
        });
    }

    int rowAt(int k) { return with(() -> num(rungRow(k))); }

    int round() {
        return with(() -> {
            needRung();
            for (int k = 1; k < now.rung.size(); k++) if (now.rung.get(k).equals(rounds())) return k;
            throw new Halt(6);
        });
    }

    private List<String> later() { return now.rung.subList(1, now.rung.size()); }
    int isTrue() { return with(() -> { needRung(); return unlike(later()) ? 1 : 0; }); }

    int falseAt(int what) {
        return with(() -> {
            need(what == 0 || what == 1, 1);
            needRung();
            for (int j = 1; j < now.rung.size(); j++)
                for (int i = 1; i < j; i++)
                    if (now.rung.get(i).equals(now.rung.get(j))) return what == 0 ? i : j;
            throw new Halt(6);
        });
    }

    int repeats() { return with(() -> { needRung(); return later().size() - new HashSet<>(later()).size(); }); }

    private static int spot(String r, int bell) { return r.indexOf('0' + bell) + 1; }
    int place(int b, int k) { return with(() -> { needBell(b); return spot(rungRow(k), b); }); }

    int blows(int b, int p) {
        return with(() -> {
            needBell(b);
            needBell(p);
            needRung();
            int n = 0;
            for (String r : later()) if (spot(r, b) == p) n++;
            return n;
        });
    }

    int music(int t) {
        return with(() -> {
            String like = spelled(t, 0).replace('0', '.');
            needRung();
            int n = 0;
            for (String r : later()) if (r.matches(like)) n++;
            return n;
        });
    }

    int runs(int n) {
        return with(() -> {
            need(n >= 3 && n <= now.stage, 1);
            needRung();
            int many = 0;
            for (String r : later())
                for (int p = 0; p + n <= now.stage; p++) {
                    String part = r.substring(p, p + n);
                    if ("12345678".contains(part) || "87654321".contains(part)) many++;
                }
            return many;
        });
    }

    int dodges(int b) {
        return with(() -> {
            needBell(b);
            needRung();
            int n = 0;
            for (int k = 2; k < now.rung.size(); k++) {
                int x = spot(now.rung.get(k - 2), b), y = spot(now.rung.get(k - 1), b), z = spot(now.rung.get(k), b);
                if (x == z && x != y) n++;
            }
            return n;
        });
    }

    int lies(int b) {
        return with(() -> {
            needBell(b);
            needRung();
            int n = 0;
            for (int k = 1; k < now.rung.size(); k++) if (spot(now.rung.get(k - 1), b) == spot(now.rung.get(k), b)) n++;
            return n;
        });
    }

    int backward() { return with(() -> { needRung(); return palindrome(now.rungChanges) ? 1 : 0; }); }

    private String sound(String r) {
        StringBuilder s = new StringBuilder();
        for (char c : r.toCharArray()) if (now.ringing.contains(c - '0')) s.append(c);
        return s.toString();
    }

    int heard(int i, int k) {
        return with(() -> {
            String s = sound(rungRow(i));
            need(k >= 0 && k < s.length(), 6);
            return s.charAt(k) - '0';
        });
    }

    int heardAlike() {
        return with(() -> {
            needRung();
            Set<String> sounds = new HashSet<>();
            int n = 0;
            for (String r : later()) if (!sounds.add(sound(r))) n++;
            return n;
        });
    }

    boolean evens() {
        return flag(() -> {
            need(now.rung != null && now.rung.size() > 1, 6);
            int n = 0;
            for (String r : later()) if (unordered(r) % 2 == 0) n++;
            fraction(n, later().size());
            return 1;
        });
    }

    private String stray(List<String> changes, int seed, int sixteenths) {
        String r = rounds();
        long s = seed;
        for (String c : changes) {
            s = Math.floorMod(s * 2693 + 10007, 65536L);
            String next = make(r, c);
            if (Math.floorMod(Math.floorDiv(s, 8L), 16L) < sixteenths) {
                for (int p = 0; p < now.stage; p++)
                    if (next.charAt(p) != r.charAt(p)) {
                        next = next.substring(0, p) + r.charAt(p) + r.charAt(p + 1) + next.substring(p + 2);
                        break;
                    }
            }
            r = next;
        }
        return r;
    }

    int strayed(int seed, int sixteenths) {
        return with(() -> {
            need(seed >= 0 && seed <= 9999 && sixteenths >= 0 && sixteenths <= 16, 1);
            return num(stray(flat(), seed, sixteenths));
        });
    }

    boolean odds(int seed, int many, int sixteenths) {
        return flag(() -> {
            need(seed >= 0 && seed <= 9999 && sixteenths >= 0 && sixteenths <= 16, 1);
            need(many >= 1 && many <= 20 && seed + many - 1 <= 9999, 1);
            List<String> changes = flat();
            int n = 0;
            for (int i = 0; i < many; i++)
                if (stray(changes, seed + i, sixteenths).equals(stray(changes, seed, 0))) n++;
            fraction(n, many);
            return 1;
        });
    }

    // ---- searches

    private Map<String, List<int[]>> reach() {
        String[][] heads = new String[now.methods.size()][3];
        for (int m = 0; m < heads.length; m++) for (int c = 0; c < 3; c++) heads[m][c] = end(now.methods.get(m), c, rounds());
        Map<String, List<int[]>> ways = new LinkedHashMap<>();
        ways.put(rounds(), new ArrayList<>());
        ArrayDeque<String> open = new ArrayDeque<>();
        open.add(rounds());
        while (!open.isEmpty()) {
            String r = open.poll();
            for (int m = 0; m < heads.length; m++)
                for (int c = 0; c < 3; c++) {
                    String to = times(r, heads[m][c]);
                    if (ways.containsKey(to)) continue;
                    List<int[]> way = new ArrayList<>(ways.get(r));
                    way.add(new int[] {m, c});
                    ways.put(to, way);
                    open.add(to);
                }
        }
        return ways;
    }

    int way(int r) {
        return with(() -> {
            String to = row(r);
            List<int[]> found = reach().get(to);
            need(found != null, 6);
            lastWay = found;
            return found.size();
        });
    }

    int wayAt(int k, int what) {
        return with(() -> {
            need(what == 0 || what == 1, 1);
            need(k >= 0 && k < lastWay.size(), 6);
            return lastWay.get(k)[what];
        });
    }

    int extent() { return with(() -> reach().size()); }

    private int compose(Meth m, int left, int set, List<Integer> calls, List<String> rows, List<List<Integer>> out) {
        if (!unlike(rows)) return 0;
        String from = rows.isEmpty() ? rounds() : rows.get(rows.size() - 1);
        if (left == 0) {
            if (!from.equals(rounds())) return 0;
            out.add(new ArrayList<>(calls));
            return 1;
        }
        int n = 0;
        for (int c = 0; c < 3; c++)
            if ((set >> c & 1) == 1) {
                List<Integer> more = new ArrayList<>(calls);
                more.add(c);
                List<String> rung = new ArrayList<>(rows);
                rung.addAll(lead(m, c, from));
                n += compose(m, left - 1, set, more, rung, out);
            }
        return n;
    }

    int compositions(int m, int leads, int calls) {
        return with(() -> {
            Meth method = meth(m);
            need(leads >= 1 && leads <= 8 && calls >= 1 && calls <= 7, 1);
            List<List<Integer>> out = new ArrayList<>();
            int n = compose(method, leads, calls, new ArrayList<>(), new ArrayList<>(), out);
            firstCalls = n > 0 ? out.get(0) : new ArrayList<>();
            return n;
        });
    }

    int callAt(int k) { return with(() -> { need(k >= 0 && k < firstCalls.size(), 6); return firstCalls.get(k); }); }

    // ---- marks

    int mark() { return with(() -> { need(marks.size() < 3, 4); marks.push(now.copy()); return marks.size(); }); }
    int back() { return with(() -> { need(!marks.isEmpty(), 6); now = marks.pop(); return marks.size(); }); }
}
