import java.util.ArrayDeque;
import java.util.ArrayList;
import java.util.Arrays;
import java.util.Collections;
import java.util.Deque;
import java.util.HashSet;
import java.util.LinkedHashSet;
import java.util.List;
import java.util.Set;
import java.util.TreeMap;

/**
 * The document once more, word by word and with no care for speed: everything is
 * reckoned anew from paths, sets and whole shapes, nothing is shared with TieOffice.
 */
final class Model {
    static final int NONE = -1, BAD = -2, NO = -3, FULL = -4, SPENT = -5;

    static final class Line {
        int v, w, r, m;
        boolean closed, dead;

        Line copy() {
            Line c = new Line();
            c.v = v; c.w = w; c.r = r; c.m = m; c.closed = closed; c.dead = dead;
            return c;
        }

        boolean tie() { return !closed && !dead; }
    }

    static final class World {
        /** PLACE to LOAD; null: a FEEDER. */
        TreeMap<Integer, Integer> places = new TreeMap<>();
        List<Line> lines = new ArrayList<>();

        World copy() {
            World c = new World();
            c.places.putAll(places);
            for (Line l : lines) c.lines.add(l.copy());
            return c;
        }

        boolean feeder(int v) { return places.containsKey(v) && places.get(v) == null; }

        long shape() {
            long s = 0;
            for (int l = 0; l < lines.size(); l++) if (lines.get(l).closed) s |= 1L << l;
            return s;
        }

        World shaped(long s) {
            World c = copy();
            for (int l = 0; l < lines.size(); l++) c.lines.get(l).closed = (s >> l & 1) == 1;
            return c;
        }

        /** CLOSED LINES from v to some PLACE that fits; FEEDERS are one if merged. Null: no way. */
        List<Integer> way(int v, int goal, boolean merged, Set<Integer> used) {
            if (v == goal || goal == -1 && feeder(v) || merged && feeder(v) && goal >= 0 && feeder(goal))
                return new ArrayList<>();
            for (int l = 0; l < lines.size(); l++) {
                Line x = lines.get(l);
                if (!x.closed || used.contains(l)) continue;
                boolean here = x.v == v || merged && feeder(v) && feeder(x.v);
                boolean there = x.w == v || merged && feeder(v) && feeder(x.w);
                if (!here && !there) continue;
                Set<Integer> more = new HashSet<>(used);
                more.add(l);
                List<Integer> rest = way(here ? x.w : x.v, goal, merged, more);
                if (rest != null) { rest.add(0, l); return rest; }
            }
            return null;
        }

        /** The LINES from v to its FEEDER; null: DARK. */
        List<Integer> up(int v) { return way(v, -1, false, new HashSet<>()); }

        boolean lit(int v) { return up(v) != null; }

        int feederOf(int v) {
            int at = v;
            for (int l : up(v)) at = lines.get(l).v == at ? lines.get(l).w : lines.get(l).v;
            return at;
        }

        /** A LINE too many for a forest, FEEDERS taken for one PLACE, is a ring. */
        boolean radial() {
            int[] part = new int[17];
            for (int i = 0; i < 17; i++) part[i] = feeder(i) ? 16 : i;
            for (Line x : lines) {
                if (!x.closed) continue;
                int a = part[x.v], b = part[x.w];
                if (a == b) return false;
                for (int i = 0; i < 17; i++) if (part[i] == a) part[i] = b;
            }
            return true;
        }

        int[] flows() {
            int[] f = new int[lines.size()];
            for (int v : places.keySet()) {
                if (feeder(v)) continue;
                List<Integer> up = up(v);
                if (up != null) for (int l : up) f[l] += places.get(v);
            }
            return f;
        }

        long lossOf(int l) { long f = flows()[l]; return lines.get(l).r * f * f; }

        long loss() {
            int[] f = flows();
            long sum = 0;
            for (int l = 0; l < f.length; l++) sum += (long) lines.get(l).r * f[l] * f[l];
            return sum;
        }

        Set<Integer> over() {
            int[] f = flows();
            Set<Integer> o = new HashSet<>();
            for (int l = 0; l < f.length; l++) if (f[l] > lines.get(l).m) o.add(l);
            return o;
        }

        boolean bears(World behind) { return over().containsAll(behind.over()); }

        long litLoad() {
            long sum = 0;
            for (int v : places.keySet()) if (!feeder(v) && lit(v)) sum += places.get(v);
            return sum;
        }

        List<Integer> ringOf(int t) {
            Line x = lines.get(t);
            if (feeder(x.v) && feeder(x.w)) return new ArrayList<>();
            List<Integer> way = way(x.v, x.w, true, new HashSet<>());
            return way == null ? new ArrayList<>() : way;
        }

        World exchanged(int t, int l) {
            World c = copy();
            c.lines.get(t).closed = true;
            c.lines.get(l).closed = false;
            return c;
        }

        /** Rows of TIE, LINE, GAIN of all EXCHANGES that MAY be. */
        List<long[]> exchanges() {
            List<long[]> rows = new ArrayList<>();
            Set<Integer> over = over();
            long loss = loss();
            for (int t = 0; t < lines.size(); t++) {
                if (!lines.get(t).tie()) continue;
                for (int l : ringOf(t)) {
                    World then = exchanged(t, l);
                    if (over.containsAll(then.over())) rows.add(new long[] {t, l, loss - then.loss()});
                }
            }
            return rows;
        }

        List<long[]> helpful() {
            List<long[]> rows = exchanges();
            rows.removeIf(r -> r[2] <= 0);
            rows.sort((a, b) -> a[2] != b[2] ? Long.compare(b[2], a[2])
                : a[0] != b[0] ? Long.compare(a[0], b[0]) : Long.compare(a[1], b[1]));
            return rows;
        }
    }

    StringBuilder text = new StringBuilder();
    World now = new World();
    Deque<World> states = new ArrayDeque<>();
    int[] refused = new int[4];

    int refuse(int why) { refused[-2 - why]++; return why; }

    boolean noLine(int l) { return l < 0 || l >= now.lines.size(); }

    boolean noPlace(int v) { return !now.places.containsKey(v); }

    void leave() {
        states.addLast(now.copy());
        if (states.size() > 6) states.removeFirst();
    }

    int type(int c) {
        if (c < 0 || c > 127) return refuse(BAD);
        if (text.length() == 200) return refuse(FULL);
        text.append((char) c);
        return text.length();
    }

    int clear() {
        int n = text.length();
        text.setLength(0);
        return n;
    }

    // ---- THE TEXT: an item is grown byte by byte and must stay the beginning of a right one.

    static boolean begins(String item, World w, int lines) {
        if (!item.matches("[a-p]|[a-p];|[a-p]\\d{1,2};?|[+-][a-p]{0,2}|[+-][a-p]{2}[1-9]\\d?|[+-][a-p]{2}[1-9]\\d?,\\d{0,3}"
            + "|[+-][a-p]{2}[1-9]\\d?,\\d{1,3};")) return false;
        char c = item.charAt(0);
        if (c != '+' && c != '-') {
            if (w.places.containsKey(c - 'a')) return false;
            return item.length() != 2 || item.charAt(1) != ';' || Collections.frequency(w.places.values(), null) < 4;
        }
        if (lines == 24) return false;
        for (int i = 1; i < Math.min(3, item.length()); i++)
            if (!w.places.containsKey(item.charAt(i) - 'a')) return false;
        if (item.length() < 3) return true;
        int v = item.charAt(1) - 'a', z = item.charAt(2) - 'a';
        if (v == z) return false;
        for (Line l : w.lines) if (l.v == v && l.w == z || l.v == z && l.w == v) return false;
        return true;
    }

    int reads() {
        World w = new World();
        String item = "";
        int begin = 0, items = 0, ring = -1;
        for (int i = 0; i < text.length(); i++) {
            if (item.isEmpty()) begin = i;
            item += text.charAt(i);
            if (!begins(item, w, w.lines.size())) return -10 - i;
            if (!item.endsWith(";")) continue;
            String body = item.substring(0, item.length() - 1);
            items++;
            item = "";
            if (body.length() == 1) { w.places.put(body.charAt(0) - 'a', null); continue; }
            if (Character.isLetter(body.charAt(0))) {
                w.places.put(body.charAt(0) - 'a', Integer.parseInt(body.substring(1)));
                continue;
            }
            Line l = new Line();
            l.closed = body.charAt(0) == '+';
            l.v = body.charAt(1) - 'a';
            l.w = body.charAt(2) - 'a';
            String[] rm = body.substring(3).split(",");
            l.r = Integer.parseInt(rm[0]);
            l.m = Integer.parseInt(rm[1]);
            w.lines.add(l);
            if (ring < 0 && !w.radial()) ring = begin;
        }
        if (ring >= 0) return -10 - ring;
        if (!item.isEmpty()) return -10 - text.length();
        leave();
        now = w;
        return items;
    }

    int line(int l, int what) {
        if (noLine(l) || what < 0 || what > 7) return refuse(BAD);
        Line x = now.lines.get(l);
        switch (what) {
            case 0: return x.v;
            case 1: return x.w;
            case 2: return x.r;
            case 3: return x.m;
            case 4: return x.dead ? 2 : x.closed ? 1 : 0;
            case 5: return now.flows()[l];
            case 6:
                if (!x.closed || !now.lit(x.v)) return NONE;
                return now.up(x.v).size() < now.up(x.w).size() ? x.v : x.w;
            default: return now.over().contains(l) ? 1 : 0;
        }
    }

    int place(int v, int what) {
        if (noPlace(v) || what < 0 || what > 4) return refuse(BAD);
        boolean lit = now.lit(v);
        if (what == 0) return now.feeder(v) ? NONE : now.places.get(v);
        if (what == 4) {
            int sum = 0;
            for (int c : now.places.keySet()) {
                if (!lit || now.feeder(c) || !now.lit(c)) continue;
                boolean on = now.feeder(v) ? now.feederOf(c) == v : now.up(c).contains(now.up(v).get(0));
                if (on) sum += now.places.get(c);
            }
            return sum;
        }
        if (!lit) return NONE;
        if (what == 1) return now.feederOf(v);
        if (what == 2) return now.feeder(v) ? NONE : now.up(v).get(0);
        return now.up(v).size();
    }

    int between(int v, int w) {
        if (noPlace(v) || noPlace(w)) return refuse(BAD);
        for (int l = 0; l < now.lines.size(); l++) {
            Line x = now.lines.get(l);
            if (Set.of(x.v, x.w).equals(new HashSet<>(Arrays.asList(v, w)))) return l;
        }
        return NONE;
    }

    int load(int v, int n) {
        if (noPlace(v) || n < 0 || n > 99) return refuse(BAD);
        if (now.feeder(v) || now.places.get(v) == n) return refuse(NO);
        World then = now.copy();
        int was = then.places.put(v, n);
        if (!now.bears(then)) return refuse(FULL);
        leave();
        now = then;
        return was;
    }

    int closes(int l) {
        if (noLine(l)) return refuse(BAD);
        if (!now.lines.get(l).tie()) return refuse(NO);
        World then = now.copy();
        then.lines.get(l).closed = true;
        if (!then.radial()) return refuse(NO);
        if (!now.bears(then)) return refuse(FULL);
        int by = (int) (then.litLoad() - now.litLoad());
        leave();
        now = then;
        return by;
    }

    int opens(int l) {
        if (noLine(l)) return refuse(BAD);
        if (!now.lines.get(l).closed) return refuse(NO);
        leave();
        long had = now.litLoad();
        now.lines.get(l).closed = false;
        return (int) (had - now.litLoad());
    }

    int falls(int l) {
        if (noLine(l)) return refuse(BAD);
        if (now.lines.get(l).dead) return refuse(NO);
        leave();
        long had = now.litLoad();
        now.lines.get(l).closed = false;
        now.lines.get(l).dead = true;
        return (int) (had - now.litLoad());
    }

    int mends(int l) {
        if (noLine(l)) return refuse(BAD);
        if (!now.lines.get(l).dead) return refuse(NO);
        leave();
        now.lines.get(l).dead = false;
        return (int) all(4);
    }

    int ring(int t, int k) {
        if (noLine(t) || k < 0) return refuse(BAD);
        if (!now.lines.get(t).tie()) return refuse(NO);
        List<Integer> r = now.ringOf(t);
        return k < r.size() ? r.get(k) : NONE;
    }

    boolean notOfRing(int t, int l) { return !now.lines.get(t).tie() || !now.ringOf(t).contains(l); }

    long gain(int t, int l) {
        if (noLine(t) || noLine(l)) return refuse(BAD);
        if (notOfRing(t, l)) return refuse(NO);
        return now.loss() - now.exchanged(t, l).loss();
    }

    int exchanges(int t, int l) {
        if (noLine(t) || noLine(l)) return refuse(BAD);
        if (notOfRing(t, l)) return refuse(NO);
        World then = now.exchanged(t, l);
        if (!now.bears(then)) return refuse(FULL);
        leave();
        now = then;
        return now.helpful().size();
    }

    int best(int what) {
        if (what != 0 && what != 1) return refuse(BAD);
        List<long[]> h = now.helpful();
        return h.isEmpty() ? NONE : (int) h.get(0)[what];
    }

    int lessens() {
        if (now.helpful().isEmpty()) return refuse(NO);
        leave();
        int n = 0;
        for (List<long[]> h = now.helpful(); !h.isEmpty(); h = now.helpful()) {
            now = now.exchanged((int) h.get(0)[0], (int) h.get(0)[1]);
            n++;
        }
        return n;
    }

    long reach(int n, int what) {
        if (n < 0 || n > 9 || what < 0 || what > 2) return refuse(BAD);
        Set<Long> reached = new LinkedHashSet<>();
        reached.add(now.shape());
        Set<Long> edge = reached;
        for (int i = 0; i < n; i++) {
            Set<Long> found = new LinkedHashSet<>();
            for (long s : edge) {
                for (long[] e : now.shaped(s).exchanges()) {
                    long then = (s | 1L << e[0]) & ~(1L << e[1]);
                    if (!reached.contains(then)) found.add(then);
                }
                if (reached.size() + found.size() > 300) return refuse(SPENT);
            }
            reached = new LinkedHashSet<>(reached);
            reached.addAll(found);
            edge = found;
        }
        if (what == 0) return reached.size();
        long least = Long.MAX_VALUE, which = 0;
        for (long s : reached) {
            long loss = now.shaped(s).loss();
            if (loss < least || loss == least && s < which) { least = loss; which = s; }
        }
        return what == 1 ? least : which;
    }

    /** Null: SPENT. */
    List<Integer> cureTies() {
        List<Integer> open = new ArrayList<>();
        for (int l = 0; l < now.lines.size(); l++) {
            Line x = now.lines.get(l);
            if (x.tie() && !(now.lit(x.v) && now.lit(x.w))) open.add(l);
        }
        if (open.size() > 12) return null;
        List<Integer> best = null;
        long most = -1;
        Set<Integer> over = now.over();
        // From the highest set down, so that the lowest of like ones is the last taken.
        for (int set = (1 << open.size()) - 1; set >= 0; set--) {
            World then = now.copy();
            List<Integer> ties = new ArrayList<>();
            for (int i = 0; i < open.size(); i++) if ((set >> i & 1) == 1) ties.add(open.get(i));
            for (int t : ties) then.lines.get(t).closed = true;
            if (!then.radial() || !over.containsAll(then.over())) continue;
            long lit = then.litLoad();
            if (best == null || lit > most || lit == most && ties.size() <= best.size()) {
                best = ties;
                most = lit;
            }
        }
        return best;
    }

    int cure(int what, int k) {
        if (what < 0 || what > 3 || k < 0) return refuse(BAD);
        List<Integer> ties = cureTies();
        if (ties == null) return refuse(SPENT);
        if (what == 0) return ties.stream().mapToInt(t -> 1 << t).sum();
        if (what == 1) return ties.size();
        World then = now.copy();
        List<Integer> order = new ArrayList<>();
        List<Integer> left = new ArrayList<>(ties);
        for (boolean found = true; found;) {
            found = false;
            for (int t : left) {
                Line x = then.lines.get(t);
                if (!then.lit(x.v) && !then.lit(x.w)) continue;
                order.add(t);
                left.remove((Integer) t);
                x.closed = true;
                found = true;
                break;
            }
        }
        if (what == 2) return (int) then.litLoad();
        return k < order.size() ? order.get(k) : NONE;
    }

    int cures() {
        List<Integer> ties = cureTies();
        if (ties == null) return refuse(SPENT);
        if (ties.isEmpty()) return refuse(NO);
        leave();
        for (int t : ties) now.lines.get(t).closed = true;
        return ties.size();
    }

    long all(int what) {
        if (what < 0 || what > 7) return refuse(BAD);
        long n = 0;
        if (what == 0) return now.loss();
        if (what == 1) return now.litLoad();
        if (what == 6) return now.over().size();
        for (int v : now.places.keySet()) {
            if (now.lit(v)) continue;
            if (what == 2) n += now.places.get(v);
            if (what == 5) n++;
        }
        for (Line l : now.lines) {
            if (what == 3 && l.tie()) n++;
            if (what == 4 && l.dead) n++;
        }
        if (what < 7) return n;
        int heavy = -1;
        for (int v : now.places.keySet())
            if (now.feeder(v) && (heavy < 0 || place(v, 4) > place(heavy, 4))) heavy = v;
        for (int l = 0; l < now.lines.size(); l++) {
            Line x = now.lines.get(l);
            if (x.closed && now.lit(x.v) && now.feederOf(x.v) == heavy) n += now.lossOf(l);
        }
        return n;
    }

    int back() {
        if (states.isEmpty()) return refuse(NO);
        now = states.removeLast();
        return states.size();
    }

    int told(int what) {
        if (what < 0 || what > 7) return refuse(BAD);
        if (what < 4) return refused[what];
        return new int[] {text.length(), now.places.size(), now.lines.size(), states.size()}[what - 4];
    }

    long digest() {
        List<Long> vs = new ArrayList<>();
        for (int i = 0; i < 8; i++) vs.add((long) told(i));
        for (int v : now.places.keySet()) {
            vs.add((long) v);
            for (int i = 0; i < 5; i++) vs.add((long) place(v, i));
        }
        for (int l = 0; l < now.lines.size(); l++) for (int i = 0; i < 8; i++) vs.add((long) line(l, i));
        for (int i = 0; i < 8; i++) vs.add(all(i));
        long h = 2267;
        for (long v : vs) h = 31 * h + v;
        return h;
    }
}
