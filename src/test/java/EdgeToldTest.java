/** Promises 19 to 24: a test for each sentence of the document that names an edge. */
public final class EdgeToldTest extends Checks {
    private static final int[] NO_NUMBERS = {-1, LOW, HIGH, 32, 64, -32};

    public static void main(String[] args) {
        cureNumbers();
        cureSets();
        cureBears();
        cureOfLike();
        cureOrder();
        cureSpent();
        cures();
        allNumbers();
        allSums();
        allHeaviest();
        backs();
        backHolds();
        statesLeft();
        statesNotLeft();
        toldNumbers();
        refusedCounts();
        digests();
        manyCalls();
        end("EdgeToldTest");
    }

    private static void cureNumbers() {
        says(19, "BAD: what is not 0 .. 3");
        TieOffice x = of("a;b4;c5;-bc1,9;-ab1,9;");
        for (int what : NO_NUMBERS) refuses(x, BAD, () -> x.cure(what, 0));
        refuses(x, BAD, () -> x.cure(4, 0));
        says(19, "BAD: k below 0, too, whatever is asked");
        for (int what = 0; what <= 3; what++) {
            int asked = what;
            refuses(x, BAD, () -> x.cure(asked, -1));
            refuses(x, BAD, () -> x.cure(asked, LOW));
        }
        says(19, "the k-th of its ORDER (0 on; NONE: not so many)");
        due(x.cure(3, 0), 1);
        due(x.cure(3, 1), 0);
        due(x.cure(3, 2), NONE);
        due(x.cure(3, 24), NONE);
        due(x.cure(3, HIGH), NONE);
        says(19, "k is no matter to the others");
        due(x.cure(0, HIGH), 3);
        due(x.cure(1, 7), 2);
        due(x.cure(2, 1), 9);
        says(19, "it changes nothing");
        long before = x.digest();
        x.cure(3, 1);
        due(x.digest(), before);
    }

    private static void cureIs(TieOffice x, int ties, int count, int lit) {
        due(x.cure(0, 0), ties);
        due(x.cure(1, 0), count);
        due(x.cure(2, 0), lit);
    }

    private static void cureSets() {
        says(19, "no TIES are one, too: none is DARK");
        TieOffice x = of(TWO);
        cureIs(x, 0, 0, 35);
        due(x.cure(3, 0), NONE);
        due(x.told(1), 0);
        says(19, "no TIES are one, too: there is no FEEDER");
        TieOffice dark = of("a;b1;c1;-ab1,9;-bc1,9;");
        cureIs(dark, 3, 2, 2);
        types(dark, "b1;c1;-bc1,9;");
        dark.reads();
        cureIs(dark, 0, 0, 0);
        says(19, "no TIES are one, too: nothing BEARS");
        cureIs(of("a;b4;-ab1,3;"), 0, 0, 0);
        says(19, "each with a DARK PLACE: not one between LIT ones");
        cureIs(of("a;b3;c3;d3;e2;+ab1,99;+cd1,99;+bc1,99;-ad1,99;-de1,9;"), 16, 1, 11);
        says(19, "a DEAD LINE is no TIE");
        TieOffice y = of("a;d;b4;-ab1,9;-db1,9;");
        y.falls(0);
        cureIs(y, 2, 1, 4);
        says(19, "leave it RADIAL: two FEEDERS are not joined");
        cureIs(of("a;d;b4;c5;-ab1,9;-bc1,9;-cd1,9;"), 3, 2, 9);
        says(19, "leave it RADIAL: no ring");
        cureIs(of("a;b4;c5;-ab1,9;-bc1,9;-ac1,9;"), 3, 2, 9);
        says(19, "leave it RADIAL: a set that does not is no hindrance to the next one");
        cureIs(of("a;d;b4;c5;-ab1,9;-db1,9;-ac1,9;"), 5, 2, 9);
        says(19, "bits: LINE 23");
        TieOffice z = of(brimful());
        for (int l = 0; l < 23; l++) z.falls(l);
        cureIs(z, 1 << 23, 1, 1);
    }

    private static void cureBears() {
        says(19, "this BEARS: at the LIMIT, not above it");
        cureIs(of("a;b4;-ab1,4;"), 1, 1, 4);
        cureIs(of("a;b4;-ab1,3;"), 0, 0, 0);
        says(19, "this BEARS: all CLOSED together");
        cureIs(of("a;b0;c4;d5;e6;+ab1,9;-bc1,9;-bd1,9;-be1,9;"), 6, 2, 9);
        cureIs(of("a;b0;c4;d5;e6;+ab1,10;-bc1,9;-bd1,9;-be1,9;"), 10, 2, 10);
        cureIs(of("a;b0;c4;d5;e6;+ab1,15;-bc1,9;-bd1,9;-be1,9;"), 14, 3, 15);
        says(19, "this BEARS: what was OVER may be so yet");
        cureIs(of("a;b7;c2;+ab1,6;-bc1,2;"), 2, 1, 9);
        says(19, "this BEARS: a LINE that was in the dark comes to be OVER");
        cureIs(of("a;b7;c2;+bc1,1;-ab1,99;"), 0, 0, 0);
    }

    /** 12 CUSTOMERS, of LOADS from one on by steps, each with a TIE to b, which bears so much. */
    private static String twelve(int first, int step, int limit) {
        StringBuilder text = new StringBuilder("a;b0;");
        for (int i = 0; i < 12; i++) text.append((char) ('c' + i)).append(first + i * step).append(';');
        for (int i = 0; i < 12; i++) text.append("-b").append((char) ('c' + i)).append("1,99;");
        return text + "+ab1," + limit + ";";
    }

    private static void cureOfLike() {
        says(19, "the LOADS of all LIT CUSTOMERS are most, not the CUSTOMERS");
        cureIs(of("a;b0;c4;d4;e9;+ab1,9;-bc1,9;-bd1,9;-be1,9;"), 8, 1, 9);
        says(19, "of like ones of the fewest TIES");
        cureIs(of("a;b0;c4;d5;e9;+ab1,9;-bc1,9;-bd1,9;-be1,9;"), 8, 1, 9);
        says(19, "of the fewest TIES: a LOAD of 0 is worth none");
        cureIs(of("a;b0;-ab1,9;"), 0, 0, 0);
        says(19, "a CUSTOMER of LOAD 0 may lie on the way");
        cureIs(of("a;b0;c5;-ab1,9;-bc1,9;"), 3, 2, 5);
        says(19, "of like ones the lowest as bits");
        cureIs(of("a;b0;c5;d5;+ab1,5;-bc1,9;-bd1,9;"), 2, 1, 5);
        says(19, "the lowest as bits: 1 and 2 are lower than 0 and 3");
        cureIs(of("a;b0;c1;d2;e3;f4;-bc1,9;-bd1,9;-be1,9;-bf1,9;+ab1,5;"), 6, 2, 5);
        says(19, "the lowest as bits: of 12 TIES, LOADS 1 .. 12, of which 40 can be LIT");
        // 12, 11, 9, 8 and 12, 11, 10, 7 are the only fours.
        cureIs(of(twelve(1, 1, 40)), 1 << 11 | 1 << 10 | 1 << 8 | 1 << 7, 4, 40);
        cureIs(of(twelve(12, -1, 40)), 1 << 0 | 1 << 1 | 1 << 3 | 1 << 4, 4, 40);
        says(19, "the most of 12 TIES: all but the least, all");
        cureIs(of(twelve(1, 1, 77)), 4094, 11, 77);
        cureIs(of(twelve(12, -1, 77)), 2047, 11, 77);
        cureIs(of(twelve(1, 1, 78)), 4095, 12, 78);
        // Left out are 1, 2, 3, 6 or 1, 2, 4, 5.
        cureIs(of(twelve(1, 1, 66)), 4095 - (1 << 0 | 1 << 1 | 1 << 2 | 1 << 5), 8, 66);
        cureIs(of(twelve(12, -1, 66)), 4095 - (1 << 11 | 1 << 10 | 1 << 9 | 1 << 6), 8, 66);
    }

    private static void orderIs(TieOffice x, int... order) {
        for (int k = 0; k < order.length; k++) due(x.cure(3, k), order[k]);
        due(x.cure(3, order.length), NONE);
    }

    private static void cureOrder() {
        says(19, "ORDER: of which a PLACE is LIT by then");
        orderIs(of("a;b1;c1;d1;-cd1,9;-bc1,9;-ab1,9;"), 2, 1, 0);
        says(19, "ORDER: each time the lowest of those that are left");
        orderIs(of("a;b1;c1;d1;-bc1,9;-ab1,9;-ad1,9;"), 1, 0, 2);
        orderIs(of("a;b1;c1;d1;-ab1,9;-ac1,9;-ad1,9;"), 0, 1, 2);
        says(19, "ORDER: its first PLACE or its second one is LIT");
        orderIs(of("a;b1;c1;-cb1,9;-ba1,9;"), 1, 0);
        says(19, "ORDER: over CLOSED LINES in what was dark");
        orderIs(of("a;b1;c1;d1;-cd1,9;+bc1,9;-ab1,9;"), 2, 0);
        says(19, "ORDER: of the longest CURE");
        TieOffice x = of(star(12));
        for (int k = 0; k < 12; k++) due(x.cure(3, k), k);
        due(x.cure(3, 12), NONE);
    }

    private static void cureSpent() {
        says(19, "SPENT: more than 12 TIES with a DARK PLACE; 12 are not");
        TieOffice x = of(star(12));
        cureIs(x, 4095, 12, 12);
        due(x.told(3), 0);
        says(19, "SPENT: 13");
        TieOffice y = of(star(13));
        for (int what = 0; what <= 3; what++) {
            int asked = what;
            refuses(y, SPENT, () -> y.cure(asked, 0));
        }
        says(19, "BAD ahead of SPENT");
        refuses(y, BAD, () -> y.cure(0, -1));
        refuses(y, BAD, () -> y.cure(4, 0));
        says(19, "SPENT: a DEAD one does not count");
        y.falls(12);
        cureIs(y, 4095, 12, 12);
        y.back();
        refuses(y, SPENT, () -> y.cure(0, 0));
        says(19, "SPENT: one of two DARK PLACES counts");
        TieOffice z = of(star(12) + "-bc1,9;");
        refuses(z, SPENT, () -> z.cure(0, 0));
        says(19, "SPENT: one between LIT PLACES does not count");
        TieOffice w = of(star(13) + "-bc1,9;");
        refuses(w, SPENT, () -> w.cure(1, 0));
        w.closes(0);
        refuses(w, SPENT, () -> w.cure(1, 0));
        w.closes(1);
        cureIs(w, 8191 - 3, 11, 13);
    }

    private static void cures() {
        says(20, "CURE is done: how many TIES are CLOSED by it; S, one for all");
        TieOffice x = of("a;b4;c5;-bc1,9;-ab1,9;");
        due(x.cures(), 2);
        due(x.line(0, 4), 1);
        due(x.line(1, 4), 1);
        due(x.all(1), 9);
        due(x.told(7), 2);
        says(20, "NO: it has none: all are LIT");
        cureIs(x, 0, 0, 9);
        due(x.cure(3, 0), NONE);
        refuses(x, NO, x::cures);
        due(x.back(), 1);
        due(x.all(5), 2);
        due(x.cures(), 2);
        says(20, "NO: it has none: nothing BEARS, no FEEDER, nothing there");
        TieOffice y = of("a;b4;-ab1,3;");
        refuses(y, NO, y::cures);
        TieOffice z = of("b1;c1;-bc1,9;");
        refuses(z, NO, z::cures);
        TieOffice w = new TieOffice();
        refuses(w, NO, w::cures);
        says(20, "NO: LOADS of 0 alone are DARK");
        TieOffice u = of("a;b0;-ab1,9;");
        refuses(u, NO, u::cures);
        due(u.all(5), 1);
        says(20, "SPENT: 13; 12 are not");
        TieOffice t = of(star(13));
        refuses(t, SPENT, t::cures);
        due(t.closes(12), 1);
        due(t.cures(), 12);
        due(t.all(5), 0);
        says(20, "SPENT ahead of NO");
        TieOffice s = of("a1;" + star(13).substring(2));
        refuses(s, SPENT, s::cures);
        due(s.told(1), 0);
    }

    private static void allNumbers() {
        says(21, "BAD: what is not 0 .. 7");
        TieOffice x = of(TWO);
        for (int what : NO_NUMBERS) refuses(x, BAD, () -> x.all(what));
        refuses(x, BAD, () -> x.all(8));
        due(x.all(7), 2200);
        due(x.all(0), 2275);
        says(21, "of nothing all are 0");
        TieOffice y = new TieOffice();
        for (int what = 0; what <= 7; what++) due(y.all(what), 0);
        due(y.told(0), 0);
    }

    private static void allSums() {
        says(21, "LOSS: the most there can be; of OPEN and dark LINES 0");
        due(of(chain(15, 99, "99,0")).all(0), 99L * 9801 * 1240);
        due(of("b9;c9;+bc9,9;").all(0), 0);
        due(of("a;c9;-ac9,9;").all(0), 0);
        says(21, "LOADS of LIT CUSTOMERS, of DARK ones: all and none");
        TieOffice x = of(chain(15, 99, "99,0"));
        due(x.all(1), 1485);
        due(x.all(2), 0);
        x.opens(0);
        due(x.all(1), 0);
        due(x.all(2), 1485);
        says(21, "TIES: OPEN, not DEAD, all 24 and none");
        TieOffice y = of(brimful());
        due(y.all(3), 24);
        y.falls(23);
        due(y.all(3), 23);
        y.closes(10);
        due(y.all(3), 22);
        says(21, "DEAD LINES");
        due(y.all(4), 1);
        y.mends(23);
        due(y.all(4), 0);
        says(21, "DARK CUSTOMERS: those of LOAD 0, too, no FEEDERS");
        due(of("a;b0;c0;d1;+ad1,9;").all(5), 2);
        due(of("a;b;c;d;").all(5), 0);
        due(of("a0;b0;c0;d0;e0;f0;g0;h0;i0;j0;k0;l0;m0;n0;o0;p0;").all(5), 16);
        says(21, "LINES that are OVER: above the LIMIT, not at it");
        due(of("a;b7;c2;+ab1,9;+bc1,2;").all(6), 0);
        due(of("a;b7;c2;+ab1,8;+bc1,2;").all(6), 1);
        due(of("a;b7;c2;+ab1,8;+bc1,1;").all(6), 2);
    }

    private static void allHeaviest() {
        says(21, "the FEEDER with the most LOADS on it, not with the most LOSS");
        due(of("a;b;c5;d4;+ac1,9;+bd9,9;").all(7), 25);
        due(of("a;b;c4;d5;+ac9,9;+bd1,9;").all(7), 25);
        says(21, "the most LOADS together, not the most CUSTOMERS");
        due(of("a;b;c5;d2;e2;+ac1,9;+bd1,9;+be1,9;").all(7), 25);
        says(21, "of like ones the lowest, not the first that was told");
        due(of("a;b;c5;d5;+bd9,9;+ac2,9;").all(7), 50);
        due(of("b;a;c5;d5;+bd9,9;+ac2,9;").all(7), 50);
        says(21, "of like ones the lowest: with nothing on any");
        due(of("a;b;c5;-ac1,9;").all(7), 0);
        says(21, "the lowest has none: the other one counts");
        due(of("a;b;c5;+bc3,9;").all(7), 75);
        says(21, "0: no FEEDER");
        due(of("c5;d6;+cd9,9;").all(7), 0);
        says(21, "LINES that hang on it: all of them, near and far");
        due(of("a;b;c5;d1;e1;+ac1,9;+cd1,9;+be1,9;").all(7), 37);
    }

    private static void backs() {
        says(22, "NO: none");
        TieOffice x = new TieOffice();
        refuses(x, NO, x::back);
        says(22, "how many can be yet: down to 0, then NO");
        TieOffice y = of("a;b1;");
        y.load(1, 2);
        due(y.back(), 1);
        due(y.back(), 0);
        due(y.told(5), 0);
        refuses(y, NO, y::back);
        says(22, "6 at most, older ones lost");
        TieOffice z = of("a;b10;");
        for (int n = 11; n <= 16; n++) z.load(1, n);
        due(z.told(7), 6);
        for (int n = 15; n >= 10; n--) {
            due(z.back(), n - 10);
            due(z.place(1, 0), n);
        }
        refuses(z, NO, z::back);
        due(z.told(5), 2);
        says(22, "round and round: the newest six, in their order");
        TieOffice w = of("a;b0;");
        for (int n = 1; n <= 40; n++) w.load(1, n);
        for (int n = 39; n >= 37; n--) {
            due(w.back(), n - 34);
            due(w.place(1, 0), n);
        }
        for (int n = 50; n <= 54; n++) w.load(1, n);
        due(w.told(7), 6);
        int[] left = {53, 52, 51, 50, 37, 36};
        for (int i = 0; i < 6; i++) {
            due(w.back(), 5 - i);
            due(w.place(1, 0), left[i]);
        }
        refuses(w, NO, w::back);
        says(22, "what was gone back from can not be gone forth to");
        TieOffice u = of("a;b1;");
        u.load(1, 2);
        u.load(1, 3);
        u.back();
        u.load(1, 4);
        due(u.back(), 2);
        due(u.place(1, 0), 2);
        due(u.back(), 1);
        due(u.place(1, 0), 1);
    }

    private static void backHolds() {
        says(22, "all but THE TEXT");
        TieOffice x = of(TWO);
        types(x, "b;");
        due(x.back(), 0);
        due(x.told(4), 2);
        due(x.told(5), 0);
        due(x.reads(), 1);
        due(x.place(1, 1), 1);
        says(22, "all but how often refused");
        TieOffice y = of(TWO);
        y.load(4, 6);
        y.load(9, 9);
        y.load(0, 9);
        y.load(4, 99);
        due(y.back(), 1);
        due(y.told(0), 1);
        due(y.told(1), 1);
        due(y.told(2), 1);
        says(22, "LOADS, CLOSED, DEAD, PLACES and LINES come back");
        TieOffice z = of(TWO);
        z.falls(3);
        z.opens(1);
        z.load(4, 6);
        long inner = z.all(0);
        types(z, "b;c7;");
        z.reads();
        due(z.back(), 4);
        due(z.all(0), inner);
        due(z.told(5), 5);
        due(z.told(6), 5);
        due(z.between(2, 4), 3);
        due(z.line(3, 4), 2);
        due(z.back(), 3);
        due(z.place(4, 0), 5);
        due(z.back(), 2);
        due(z.line(1, 4), 1);
        due(z.all(0), 2275);
        due(z.back(), 1);
        due(z.line(3, 4), 0);
        due(z.ring(3, 2), 2);
    }

    private static void statesLeft() {
        says(22, "each call told S leaves one");
        TieOffice x = of("a;d;b3;c3;+ab2,9;-db1,9;-ac1,9;");
        due(x.told(7), 1);
        x.load(1, 4);
        due(x.told(7), 2);
        x.closes(2);
        due(x.told(7), 3);
        x.opens(2);
        due(x.told(7), 4);
        x.falls(2);
        due(x.told(7), 5);
        x.mends(2);
        due(x.told(7), 6);
        due(x.back(), 5);
        due(x.back(), 4);
        due(x.back(), 3);
        due(x.exchanges(1, 0), 0);
        due(x.told(7), 4);
        due(x.exchanges(0, 1), 1);
        due(x.told(7), 5);
        due(x.lessens(), 1);
        due(x.told(7), 6);
        due(x.back(), 5);
        due(x.opens(0), 4);
        due(x.back(), 5);
        due(x.back(), 4);
        due(x.opens(2), 3);
        due(x.told(7), 5);
        due(x.cures(), 1);
        due(x.told(7), 6);
    }

    private static void statesNotLeft() {
        says(22, "other calls leave none");
        TieOffice x = of(LOOP);
        x.type('a');
        x.clear();
        x.line(0, 0);
        x.place(0, 0);
        x.between(0, 1);
        x.ring(3, 0);
        x.gain(3, 0);
        x.best(0);
        x.reach(3, 0);
        x.cure(0, 0);
        x.all(0);
        x.told(0);
        x.digest();
        due(x.told(7), 1);
        for (int i = 0; i <= 3; i++) due(x.told(i), 0);
        says(22, "refused calls leave none");
        TieOffice y = of(TWO);
        y.load(4, 99);
        y.load(0, 1);
        y.closes(3);
        y.opens(3);
        y.falls(9);
        y.mends(0);
        y.exchanges(3, 1);
        y.lessens();
        y.cures();
        types(y, "a");
        y.reads();
        due(y.told(7), 1);
        due(y.told(0), 1);
        due(y.told(1), 6);
        due(y.told(2), 2);
        due(y.back(), 0);
        due(y.told(5), 0);
    }

    private static void toldNumbers() {
        says(23, "BAD: what is not 0 .. 7");
        TieOffice x = of(TWO);
        for (int what : NO_NUMBERS) refuses(x, BAD, () -> x.told(what));
        refuses(x, BAD, () -> x.told(8));
        due(x.told(7), 1);
        says(23, "a refused told counts, too");
        due(x.told(0), NO_NUMBERS.length + 1);
        says(23, "bytes of THE TEXT: 0 .. 200");
        TieOffice y = new TieOffice();
        due(y.told(4), 0);
        types(y, brimful());
        due(y.told(4), 200);
        says(23, "PLACES: 0 .. 16");
        due(y.told(5), 0);
        due(of("a0;b0;c0;d0;e0;f0;g0;h0;i0;j0;k0;l0;m0;n0;o0;p;").told(5), 16);
        says(23, "LINES: 0 .. 24, DEAD ones, too");
        due(y.told(6), 0);
        due(y.reads(), 36);
        due(y.told(6), 24);
        y.falls(0);
        due(y.told(6), 24);
        says(23, "STATES: 0 .. 6");
        TieOffice z = new TieOffice();
        for (int n = 1; n <= 8; n++) {
            due(z.told(7), Math.min(n - 1, 6));
            z.reads();
        }
        due(z.told(7), 6);
    }

    private static void refusedCounts() {
        says(23, "How often refused: BAD (0)");
        TieOffice x = of(TWO);
        x.line(9, 0);
        x.type(200);
        due(x.told(0), 2);
        says(23, "How often refused: NO (1)");
        x.opens(3);
        x.ring(0, 0);
        x.gain(0, 0);
        due(x.told(1), 3);
        says(23, "How often refused: FULL (2)");
        x.load(4, 11);
        x.exchanges(3, 1);
        due(x.told(2), 2);
        says(23, "How often refused: SPENT (3)");
        TieOffice y = of(star(13));
        y.cure(0, 0);
        y.cures();
        due(y.told(3), 2);
        due(y.told(0) + y.told(1) + y.told(2), 0);
        says(23, "NONE is not refused");
        TieOffice z = of("a;b1;-ab1,9;");
        z.place(0, 0);
        z.line(0, 6);
        z.ring(0, 0);
        z.best(0);
        z.cure(3, 5);
        z.between(0, 0);
        for (int i = 0; i <= 3; i++) due(z.told(i), 0);
        due(x.told(0), 2);
        due(x.told(1), 3);
        due(x.told(3), 0);
    }

    /** The digest by the questions that it is made of; they must not be refused. */
    private static long digestOf(TieOffice x, String places, int lines) {
        long h = 2267;
        for (int i = 0; i <= 7; i++) h = 31 * h + x.told(i);
        for (char v : places.toCharArray()) {
            h = 31 * h + (v - 'a');
            for (int i = 0; i <= 4; i++) h = 31 * h + x.place(v - 'a', i);
        }
        for (int l = 0; l < lines; l++) for (int i = 0; i <= 7; i++) h = 31 * h + x.line(l, i);
        for (int i = 0; i <= 7; i++) h = 31 * h + x.all(i);
        return h;
    }

    private static void digests() {
        says(24, "h = 2267; of nothing, 16 times 31 h");
        long h = 2267;
        for (int i = 0; i < 16; i++) h *= 31;
        due(new TieOffice().digest(), h);
        says(24, "PLACE by PLACE of those that are there, rising, not as they were told");
        TieOffice x = of("p9;c;a5;+ca1,9;-pa2,8;");
        due(x.digest(), digestOf(x, "acp", 2));
        says(24, "what is DARK, OPEN, DEAD, OVER is in it");
        TieOffice y = of("a;b7;c2;d3;+ab1,6;-bc1,1;+ad1,9;");
        y.falls(2);
        due(y.digest(), digestOf(y, "abcd", 3));
        says(24, "a long that goes round: of the most PLACES and LINES of one text");
        TieOffice z = of(brimful());
        z.closes(10);
        due(z.digest(), digestOf(z, "abcdefghijkl", 24));
        says(24, "how often refused is in it");
        TieOffice w = of(TWO);
        long before = w.digest();
        w.line(9, 9);
        due(w.digest(), digestOf(w, "abcde", 5));
        due(before == w.digest() ? 1 : 0, 0);
        says(24, "asked twice it is the same, it counts nothing");
        before = w.digest();
        due(w.digest(), before);
        due(w.told(0), 1);
    }

    private static void manyCalls() {
        says(22, "at most 512 calls after it has been made: the last is answered as the first");
        TieOffice x = new TieOffice();
        types(x, "a;b0;-ab1,9;");
        due(x.reads(), 3);
        for (int i = 0; i < 248; i++) {
            x.closes(0);
            x.opens(0);
        }
        due(x.told(7), 6);
        due(x.back(), 5);
        says(22, "refused 511 times");
        TieOffice y = new TieOffice();
        for (int i = 0; i < 511; i++) y.back();
        due(y.told(1), 511);
    }
}
