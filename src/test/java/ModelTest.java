import java.util.ArrayList;
import java.util.List;
import java.util.Random;

/**
 * Runs of calls, the same ones each time (the seed is fixed), answered by TieOffice
 * and by the model; arguments go beyond their edges, too.
 * Arguments: how many runs (else 400), the first seed (else 1).
 */
public final class ModelTest {
    private static int wrong = 0;
    private static final int[] ODD = {-1, Integer.MIN_VALUE, Integer.MAX_VALUE, 24, 31, 32, 16, 17, 100, -2};
    private static final long[] kinds = new long[32];

    private final Random random;
    private final TieOffice office = new TieOffice();
    private final Model model = new Model();
    private final List<String> calls = new ArrayList<>();
    private int count = 0;

    private ModelTest(long seed) { random = new Random(seed); }

    public static void main(String[] args) {
        int runs = args.length > 0 ? Integer.parseInt(args[0]) : 400;
        long seed = args.length > 1 ? Long.parseLong(args[1]) : 1;
        for (int i = 0; i < runs && wrong < 5; i++) new ModelTest(seed + i).run(seed + i);
        if (wrong == 0) System.out.println("ModelTest: all answers are the model's");
        if (args.length > 2) {
            String[] names = {"reads", "fault", "load", "closes", "opens", "falls", "mends", "exchanges", "lessens", "cures",
                "back", "reach", "spentReach", "spentCure", "fullLoad", "fullCloses", "fullExchange", "cure>1", "lessens>1", "best"};
            for (int i = 0; i < names.length; i++) System.out.println(names[i] + " " + kinds[i]);
        }
        System.exit(wrong == 0 ? 0 : 1);
    }

    private void run(long seed) {
        boolean same = true;
        same = types(net());
        for (int i = 0; i < 80 && same && count < 505; i++) same = step();
        if (!same) {
            wrong++;
            System.out.println("seed " + seed + ", TEXT " + model.text + ": " + calls.get(calls.size() - 1));
            System.out.println("  " + String.join(" ", calls));
        }
    }

    private boolean types(String text) {
        boolean same = due("clear()", office.clear(), model.clear());
        for (char c : text.toCharArray()) same &= due("'" + c + "'", office.type(c), model.type(c));
        return same && reads();
    }

    private boolean reads() {
        int want = model.reads();
        kinds[want >= 0 ? 0 : 1]++;
        return due("reads()", office.reads(), want) && digest();
    }

    private boolean digest() {
        return due("digest()", office.digest(), model.digest());
    }

    private boolean due(String call, long got, long want) {
        count++;
        calls.add(call + " " + got + (got == want ? "" : " (due is " + want + ")"));
        return got == want;
    }

    private int pick(int n) { return random.nextInt(Math.max(1, n)); }

    private int odd(int usual) { return pick(25) == 0 ? ODD[pick(ODD.length)] : usual; }

    private int aLine() { return odd(pick(model.now.lines.size())); }

    private int aLine(boolean closed, boolean dead) {
        List<Integer> fit = new ArrayList<>();
        for (int l = 0; l < model.now.lines.size(); l++) {
            Model.Line x = model.now.lines.get(l);
            if (x.closed == closed && x.dead == dead) fit.add(l);
        }
        return fit.isEmpty() || pick(8) == 0 ? aLine() : fit.get(pick(fit.size()));
    }

    private int aPlace() {
        List<Integer> there = new ArrayList<>(model.now.places.keySet());
        return there.isEmpty() || pick(10) == 0 ? odd(pick(17)) : there.get(pick(there.size()));
    }

    private int ofRing(int t) {
        if (t < 0 || t >= model.now.lines.size() || !model.now.lines.get(t).tie()) return aLine();
        List<Integer> r = model.now.ringOf(t);
        return r.isEmpty() || pick(10) == 0 ? aLine() : r.get(pick(r.size()));
    }

    private boolean step() {
        int kind = pick(40);
        if (kind < 22) return changes(kind) && digest() && asksAgain();
        if (kind == 39 && model.text.length() < 190) {
            int c = odd(pick(130));
            return due("type(" + c + ")", office.type(c), model.type(c)) && reads();
        }
        if (kind == 38 && pick(2) == 0) return types(pick(2) == 0 ? net() : spoilt(net()));
        return asks(kind);
    }

    private boolean changes(int kind) {
        int l, v, n;
        long want;
        switch (kind / 2) {
            case 0: case 1:
                v = aPlace(); n = odd(pick(4) == 0 ? pick(100) : pick(25));
                want = model.load(v, n); note(want, 2, 14);
                return due("load(" + v + ", " + n + ")", office.load(v, n), want);
            case 2: case 3:
                l = aLine(false, false);
                want = model.closes(l); note(want, 3, 15);
                return due("closes(" + l + ")", office.closes(l), want);
            case 4:
                l = aLine(true, false);
                want = model.opens(l); note(want, 4, 31);
                return due("opens(" + l + ")", office.opens(l), want);
            case 5:
                l = pick(3) == 0 ? aLine() : aLine(true, false);
                want = model.falls(l); note(want, 5, 31);
                return due("falls(" + l + ")", office.falls(l), want);
            case 6:
                l = aLine(false, true);
                want = model.mends(l); note(want, 6, 31);
                return due("mends(" + l + ")", office.mends(l), want);
            case 7: case 8:
                int t = aLine(false, false);
                l = ofRing(t);
                want = model.exchanges(t, l); note(want, 7, 16);
                return due("exchanges(" + t + ", " + l + ")", office.exchanges(t, l), want);
            case 9:
                want = model.lessens(); note(want, 8, 31);
                if (want > 1) kinds[18]++;
                return due("lessens()", office.lessens(), want);
            default:
                if (kind % 2 == 0) {
                    want = model.cures(); note(want, 9, 31);
                    return due("cures()", office.cures(), want);
                }
                want = model.back(); note(want, 10, 31);
                return due("back()", office.back(), want);
        }
    }

    /** The dear answers, so that one that was kept too long shows. */
    private boolean asksAgain() {
        if (pick(3) > 0) return true;
        int what = pick(3);
        return due("cure(" + what + ", 0)", office.cure(what, 0), model.cure(what, 0))
            && due("reach(2, " + what + ")", office.reach(2, what), model.reach(2, what));
    }

    private void note(long want, int done, int full) {
        if (want >= 0) kinds[done]++;
        if (want == Model.FULL) kinds[full]++;
    }

    private boolean asks(int kind) {
        int t = aLine(false, false), l = ofRing(t), v = aPlace(), w = aPlace(), what = odd(pick(8)), k = odd(pick(6));
        switch (kind) {
            case 22: case 23: case 24:
                return due("ring(" + t + ", " + k + ")", office.ring(t, k), model.ring(t, k));
            case 25: case 26: case 27:
                return due("gain(" + t + ", " + l + ")", office.gain(t, l), model.gain(t, l));
            case 28:
                what = odd(pick(2));
                long best = model.best(what);
                if (best >= 0) kinds[19]++;
                return due("best(" + what + ")", office.best(what), best);
            case 29: case 30:
                int n = odd(pick(10)); what = odd(pick(3));
                long reach = model.reach(n, what);
                note(reach, 11, 31);
                if (reach == Model.SPENT) kinds[12]++;
                return due("reach(" + n + ", " + what + ")", office.reach(n, what), reach);
            case 31: case 32:
                what = odd(pick(4));
                long cure = model.cure(what, k);
                if (cure == Model.SPENT) kinds[13]++;
                if (what == 1 && cure > 1) kinds[17]++;
                return due("cure(" + what + ", " + k + ")", office.cure(what, k), cure);
            case 33:
                return due("between(" + v + ", " + w + ")", office.between(v, w), model.between(v, w));
            case 34:
                return due("line(" + l + ", " + what + ")", office.line(l, what), model.line(l, what));
            case 35:
                return due("place(" + v + ", " + what + ")", office.place(v, what), model.place(v, what));
            case 36:
                return due("all(" + what + ")", office.all(what), model.all(what));
            case 37:
                return due("told(" + what + ")", office.told(what), model.told(what));
            default:
                return due("back()", office.back(), model.back()) && digest();
        }
    }

    /** A right text: PLACES in some order, LINES CLOSED only where the net stays RADIAL. */
    private String net() {
        StringBuilder text = new StringBuilder();
        Model.World w = new Model.World();
        int size = 2 + pick(pick(3) == 0 ? 15 : 9), feeders = pick(12) == 0 ? 0 : 1 + pick(4);
        List<Integer> letters = new ArrayList<>();
        for (int v = 0; v < 16; v++) letters.add(v);
        java.util.Collections.shuffle(letters, random);
        for (int i = 0; i < size; i++) {
            int v = letters.get(i), load = pick(6) == 0 ? pick(100) : pick(20);
            w.places.put(v, i < feeders ? null : (Integer) load);
            text.append((char) ('a' + v)).append(i < feeders ? "" : (pick(9) == 0 && load < 10 ? "0" : "") + load).append(';');
        }
        int tries = pick(50), chance = 1 + pick(4), slack = pick(4);
        for (int i = 0; i < tries && w.lines.size() < 24; i++) addLine(text, w, letters.subList(0, size), chance, slack);
        return text.toString();
    }

    private void addLine(StringBuilder text, Model.World w, List<Integer> letters, int chance, int slack) {
        Model.Line l = new Model.Line();
        l.v = letters.get(pick(letters.size()));
        l.w = letters.get(pick(letters.size()));
        if (l.v == l.w) return;
        for (Model.Line x : w.lines) if (x.v == l.v && x.w == l.w || x.v == l.w && x.w == l.v) return;
        l.r = 1 + pick(pick(3) == 0 ? 99 : 5);
        l.m = slack == 0 ? 999 : slack == 1 ? 10 + pick(40) : slack == 2 ? 20 + pick(100) : pick(30);
        w.lines.add(l);
        l.closed = pick(5) < chance;
        if (l.closed && !w.radial()) l.closed = false;
        String item = (l.closed ? "+" : "-") + (char) ('a' + l.v) + (char) ('a' + l.w) + l.r + "," + l.m + ";";
        if (text.length() + item.length() > 200) w.lines.remove(l);
        else text.append(item);
    }

    private String spoilt(String text) {
        StringBuilder b = new StringBuilder(text);
        String signs = "abcdhp+-,;0159qA `\n";
        for (int i = 0; i <= pick(3) && b.length() > 0; i++) {
            int at = pick(b.length());
            char c = signs.charAt(pick(signs.length()));
            switch (pick(5)) {
                case 0: b.deleteCharAt(at); break;
                case 1: b.insert(at, c); break;
                case 2: b.setLength(at); break;
                case 3: if (b.charAt(at) == '-') b.setCharAt(at, '+'); break;
                default: b.setCharAt(at, c);
            }
        }
        for (int i = 0; i < b.length() && pick(3) == 0; i++) if (b.charAt(i) == '-') b.setCharAt(i, '+');
        return b.length() > 200 ? b.substring(0, 200) : b.toString();
    }
}
