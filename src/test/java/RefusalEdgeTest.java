import java.util.ArrayList;
import java.util.List;

/**
 * Refused calls: what they answer, and that they change nothing else. Two desks are brought to the same state, one
 * of them is asked for what it refuses, and then all that can be asked of both is held against each other.
 */
public final class RefusalEdgeTest extends Edge {
    interface Call { long of(RingChamber x); }

    private static final List<String> names = new ArrayList<>();
    private static final List<Call> refusals = new ArrayList<>();

    private static final int STATES = 5;

    private static RingChamber state(int which) {
        RingChamber x = new RingChamber();
        if (which == 0) return x;
        Texts.book(x, "stage 5;method p 1 5 bob 123;ringer g 2;");
        Texts.touch(x, "plain p;bob p;");
        x.ring();
        x.mark();
        Texts.book(x, FOUR + "ringer o 1;ringer p 3;");
        if (which == 1) return x;
        x.way(3);
        x.compositions(0, 3, 1);
        Texts.touch(x, "plain a;plain b;");
        x.mark();
        fill(x, 0, 0, 4, 3, 2, 1, 9);
        fill(x, 1, 2, 1, 2, 3, 3);
        fill(x, 2, 2, 7, 8);
        Texts.feed(x, "stage 6;ringer a 6; ????");
        if (which == 2) return x;
        x.ring();
        x.evens();
        if (which == 3) return x;
        x.mark();
        for (int i = 0; i < 43; i++) x.feed(0x20202020, 0x20202020, 0x20202020, 0x20202020, 0x20202020);
        return x;
    }

    private static void add(List<Long> seen, RingChamber x, long answer) {
        seen.add(answer);
        seen.add((long) x.status());
    }

    private static void look(List<Long> seen, RingChamber x) {
        for (int what = 0; what <= 5; what++) add(seen, x, x.told(what));
        for (int k = 0; k <= 9; k += 3) add(seen, x, x.rowAt(k));
        for (int m = 0; m < 4; m++) add(seen, x, x.head(m, 1));
        add(seen, x, x.strayed(5, 5));
        add(seen, x, x.heardAlike());
        add(seen, x, x.extent());
    }

    /** All that can be asked; the tape and the FAULT by themselves, as some refusals may change them. */
    private static List<Long> drained(RingChamber x, boolean tape) {
        List<Long> seen = new ArrayList<>();
        seen.add(x.top());
        seen.add(x.bottom());
        if (tape) for (int what = 0; what < 2; what++) seen.add((long) x.fault(what));
        for (int t = 0; t < 4; t++) for (int p = 0; p < 6; p++) add(seen, x, x.read(t, p));
        for (int k = 0; k < 3; k++) for (int what = 0; what < 2; what++) add(seen, x, x.wayAt(k, what));
        for (int k = 0; k < 4; k++) add(seen, x, x.callAt(k));
        look(seen, x);
        if (tape) {
            seen.add((long) x.feed(0x3b3b3b3b, 0x3b3b3b3b, 0x3b3b3b3b, 0x3b3b3b3b, 0x3b3b3b3b));
            x.mark();
            add(seen, x, x.book(20));
            seen.add((long) x.fault(1));
            look(seen, x);
        }
        for (int i = 0; i < 4; i++) {
            add(seen, x, x.back());
            look(seen, x);
        }
        return seen;
    }

    private static void refusal(String name, Call call) {
        names.add(name);
        refusals.add(call);
    }

    private static long flag(boolean b) { return b ? 1 : 0; }

    private static void trayRefusals() {
        refusal("tray of no TRAY", x -> flag(x.tray(4, 0, 1)));
        refusal("tray of no sort", x -> flag(x.tray(0, 4, 1)));
        refusal("tray of 61", x -> flag(x.tray(0, 0, 61)));
        refusal("tray of -1", x -> flag(x.tray(0, 0, -1)));
        refusal("write to no TRAY", x -> flag(x.write(-1, 0, 5)));
        refusal("write to a missing one", x -> flag(x.write(3, 0, 5)));
        refusal("write below 0", x -> flag(x.write(0, -1, 5)));
        refusal("write behind the last", x -> flag(x.write(0, 5, 5)));
        refusal("read of no TRAY", x -> x.read(4, 0));
        refusal("read of a missing one", x -> x.read(3, 0));
        refusal("read behind the last", x -> x.read(1, 4));
        refusal("pour below 0", x -> flag(x.pour(1, -1, 2, 0, 1)));
        refusal("pour of a missing one", x -> flag(x.pour(3, 0, 2, 0, 1)));
        refusal("pour of unlike sorts", x -> flag(x.pour(0, 0, 2, 0, 1)));
        refusal("pour of too few", x -> flag(x.pour(1, 0, 2, 0, 3)));
        refusal("pour into too few", x -> flag(x.pour(2, 0, 1, 3, 2)));
    }

    private static void textAndRowRefusals() {
        refusal("book below 0", x -> x.book(-1));
        refusal("book of more than there is", x -> x.book(901));
        refusal("touch below 0", x -> x.touch(-1));
        refusal("touch above 300", x -> x.touch(301));
        refusal("told", x -> x.told(6));
        refusal("told of no TOUCH", x -> x.told(4));
        refusal("told of nothing RUNG", x -> x.told(5));
        refusal("bell", x -> x.bell(24, 1));
        refusal("number of no TRAY", x -> x.number(4));
        refusal("number of a missing one", x -> x.number(3));
        refusal("number of too few", x -> x.number(2));
        refusal("number with one again", x -> x.number(1));
        refusal("product", x -> x.product(0, 120));
        refusal("inverse", x -> x.inverse(-1));
        refusal("order", x -> x.order(120));
        refusal("even", x -> x.even(120));
        refusal("done with no ROW", x -> x.done(-1, 0));
        refusal("done with no PLACES", x -> x.done(0, 10));
        refusal("power", x -> x.power(0, 100));
        refusal("cycles", x -> x.cycles(0, 0));
        refusal("distance", x -> x.distance(-1, 0));
        refusal("between with no ROW", x -> x.between(0, -1));
        refusal("between with no CHANGE", x -> x.between(0, 23));
    }

    private static void methodRefusals() {
        refusal("changes", x -> x.changes(4));
        refusal("change", x -> x.change(0, 0, 32));
        refusal("head", x -> x.head(0, 3));
        refusal("course", x -> x.course(4, 0));
        refusal("fixed", x -> x.fixed(-1, 0));
        refusal("symmetric", x -> x.symmetric(4));
        refusal("leadTrue", x -> x.leadTrue(4));
        refusal("falseAgainst", x -> x.falseAgainst(0, 120));
        refusal("falses", x -> x.falses(4));
        refusal("leadsTo with no ROW", x -> x.leadsTo(0, -1));
        refusal("leadsTo that none do", x -> x.leadsTo(0, 23));
        refusal("inLead with no METHOD", x -> x.inLead(4, 0));
        refusal("inLead of none", x -> x.inLead(1, 1));
    }

    private static void touchRefusals() {
        refusal("ring", x -> x.ring());
        refusal("rowAt", x -> x.rowAt(-1));
        refusal("rowAt of nothing RUNG", x -> x.rowAt(0));
        refusal("round", x -> x.round());
        refusal("isTrue", x -> x.isTrue());
        refusal("falseAt", x -> x.falseAt(2));
        refusal("falseAt of a TRUE one", x -> x.falseAt(0));
        refusal("repeats", x -> x.repeats());
        refusal("place", x -> x.place(0, 0));
        refusal("place of nothing RUNG", x -> x.place(1, 0));
        refusal("blows", x -> x.blows(1, 9));
        refusal("blows of nothing RUNG", x -> x.blows(1, 1));
        refusal("music of a missing one", x -> x.music(3));
        refusal("music of nothing RUNG", x -> x.music(1));
        refusal("runs", x -> x.runs(2));
        refusal("runs of nothing RUNG", x -> x.runs(3));
        refusal("dodges", x -> x.dodges(9));
        refusal("lies", x -> x.lies(0));
        refusal("backward", x -> x.backward());
        refusal("heard of no ROW", x -> x.heard(-1, 0));
        refusal("heard of not so many", x -> x.heard(0, 5));
        refusal("heardAlike", x -> x.heardAlike());
        refusal("evens", x -> flag(x.evens()));
        refusal("strayed", x -> x.strayed(10000, 0));
        refusal("strayed without a TOUCH", x -> x.strayed(0, 0));
        refusal("odds", x -> flag(x.odds(9999, 2, 0)));
        refusal("odds without a TOUCH", x -> flag(x.odds(0, 1, 0)));
        refusal("way to no ROW", x -> x.way(-1));
        refusal("way of which there is none", x -> x.way(23));
        refusal("wayAt", x -> x.wayAt(0, 2));
        refusal("wayAt of none", x -> x.wayAt(-1, 0));
        refusal("compositions out of the empty set", x -> x.compositions(0, 1, 0));
        refusal("compositions of 9 LEADS", x -> x.compositions(0, 9, 1));
        refusal("callAt", x -> x.callAt(8));
        refusal("mark", x -> x.mark());
        refusal("back", x -> x.back());
    }

    private static void allRefusals() {
        term("With another STATUS than 0 a call gives NONE, or false, and changes nothing else (but book(), touch() with 9 the tape, and what fault() tells).");
        trayRefusals();
        textAndRowRefusals();
        methodRefusals();
        touchRefusals();
        for (int i = 0; i < names.size(); i++) {
            int seen = 0;
            for (int which = 0; which < STATES; which++) {
                RingChamber asked = state(which);
                long answer = refusals.get(i).of(asked);
                if (asked.status() == 0) continue;
                seen++;
                due(names.get(i) + " gives NONE, or false", answer == NONE || answer == 0 && isFlag(names.get(i)), true);
                due(names.get(i) + " changes nothing in state " + which, drained(asked, true).equals(drained(state(which), true)), true);
            }
            due(names.get(i) + " is refused", seen > 0, true);
        }
    }

    private static boolean isFlag(String name) {
        return name.startsWith("tray") || name.startsWith("write") || name.startsWith("pour") || name.startsWith("evens") || name.startsWith("odds");
    }

    private static void faultyTexts() {
        term("(but book(), touch() with 9 the tape, and what fault() tells).");
        for (int which = 0; which < STATES; which++) {
            for (int n : new int[] {0, 1, 7, 14}) {
                RingChamber x = state(which);
                if (x.book(n) == NONE && x.status() == 9) settled(x, which, n);
                x = state(which);
                if (n > 0 && x.touch(n) == NONE && x.status() == 9) settled(x, which, n);
            }
        }
    }

    private static void settled(RingChamber x, int which, int n) {
        due("a FAULT is told in state " + which, x.fault(0), 2);
        due("the tape is empty in state " + which, x.feed(0, 0, 0, 0, 0), 20);
        due("faulty at " + n + " changes nothing else in state " + which, drained(x, false).equals(drained(state(which), false)), true);
    }

    private static void states() {
        term("STATUS of a call is the first of these that holds: 1 a number that can't be; no such TRAY, BELL, METHOD, call, ROW's NUMBER; a set with others.");
        RingChamber x = new RingChamber();
        refused(x, "1 ahead of 2", x.number(-1), 1);
        denied(x, "1 ahead of 2", x.pour(0, -1, 1, 0, 0), 1);
        refused(x, "1 ahead of 6", x.blows(0, 1), 1);
        refused(x, "1 ahead of 6", x.strayed(-1, 0), 1);
        refused(x, "1 ahead of 7", x.done(24, 13), 1);
        refused(x, "1 ahead of 7", x.between(24, 0), 1);
        RingChamber four = with(FOUR);
        refused(four, "a set with others", four.compositions(0, 1, 8), 1);

        term("2 the TRAY is MISSING. 3 a place that the TRAY has not, or too few numbers.");
        refused(x, "2 ahead of 3", x.read(0, 99), 2);
        refused(x, "2 ahead of 6", x.music(0), 2);
        fill(x, 0, 0, 9);
        refused(x, "3 ahead of 5", x.number(0), 3);
        refused(x, "3 ahead of 5", x.music(0), 3);

        term("4 one too many. 5 a number in a TRAY that can't be. 6 there is none such. 7 it can't be. 8 TRAYS are of unlike sorts. 9 a FAULT. 0 else.");
        for (int i = 0; i < 3; i++) x.mark();
        refused(x, "4", x.mark(), 4);
        fill(x, 0, 0, 9, 9, 9, 9);
        refused(x, "5", x.number(0), 5);
        refused(x, "5 ahead of 6", x.music(0), 5);
        refused(x, "6", x.ring(), 6);
        refused(x, "7", x.done(0, 13), 7);
        fill(x, 1, 1, 9);
        denied(x, "8", x.pour(0, 0, 1, 0, 1), 8);
        refused(x, "9", x.book(0), 9);
        fine(x, "0", x.told(0), 4);
    }

    private static void lastCall() {
        term("An object is used for at most 512 calls after it has been made");
        RingChamber x = new RingChamber();
        int calls = 0;
        for (int i = 0; i < FOUR.length(); i += 20) calls++;
        Texts.book(x, FOUR);
        Texts.touch(x, "loop 3;plain a;end;");
        x.ring();
        calls += 1 + 1 + 1 + 1;
        while (calls < 512) {
            switch (calls % 5) {
                case 0: due("call " + calls, x.isTrue(), 1); break;
                case 1: due("call " + calls, x.way(3), 1); break;
                case 2: due("call " + calls, x.compositions(0, 3, 1), 1); break;
                case 3: due("call " + calls, x.falses(0), 17); break;
                default: due("call " + calls, x.heardAlike(), 23);
            }
            calls++;
        }
    }

    public static void main(String[] args) {
        allRefusals();
        faultyTexts();
        states();
        lastCall();
        settle("RefusalEdgeTest", 1, 0);
    }
}
