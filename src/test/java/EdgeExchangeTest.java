/** Promises 13 to 18: a test for each sentence of the document that names an edge. */
public final class EdgeExchangeTest extends Checks {
    private static final int[] NO_NUMBERS = {-1, LOW, HIGH, 32, 64, -32};
    /** A ring in the dark. */
    private static final String DARK_LOOP = "b1;c2;d3;+bc1,0;+cd1,0;-bd1,0;";

    /** FLOWS 9, 3, 6, LOSS 594. Opened is 0: 162 (9 on the TIE); 1: 234 (3); 2: 90 (6). */
    private static String steep(int limitOfTie) {
        return "a;b3;c3;d3;+ab5,99;+cd1,99;+bc5,99;-ad1," + limitOfTie + ";";
    }

    /** Two branches a-b and a-c-d, FLOWS 3, 6, 3, a TIE b-d. */
    private static String branches(int limitOfAc, int limitOfCd) {
        return "a;b3;c3;d3;+ab1,99;+ac1," + limitOfAc + ";+cd1," + limitOfCd + ";-bd1,99;";
    }

    /** Rings at a that share nothing, of so many LINES each, the last of them a TIE: their product is all SHAPES. */
    private static String loops(int... sizes) {
        StringBuilder places = new StringBuilder("a;");
        StringBuilder lines = new StringBuilder();
        char next = 'b';
        for (int size : sizes) {
            char at = 'a';
            for (int i = 1; i < size; i++, next++) {
                places.append(next).append("1;");
                lines.append("+").append(at).append(next).append("1,99;");
                at = next;
            }
            lines.append("-").append(at).append("a1,99;");
        }
        return places.append(lines).toString();
    }

    public static void main(String[] args) {
        ringNumbers();
        ringEnds();
        ringNone();
        gainNumbers();
        gains();
        exchangesRefused();
        exchangesBear();
        exchangesAnswer();
        best();
        bestOfLike();
        lessens();
        reachNumbers();
        reachSteps();
        reachMay();
        reachLeast();
        reachSpent();
        end("EdgeExchangeTest");
    }

    private static void ringNumbers() {
        says(13, "BAD: no such LINE");
        TieOffice x = of(TWO);
        for (int t : NO_NUMBERS) refuses(x, BAD, () -> x.ring(t, 0));
        refuses(x, BAD, () -> x.ring(5, 0));
        says(13, "BAD: k below 0, too");
        refuses(x, BAD, () -> x.ring(3, -1));
        refuses(x, BAD, () -> x.ring(3, LOW));
        says(13, "NO: it is no TIE: CLOSED");
        refuses(x, NO, () -> x.ring(0, 0));
        says(13, "NO: it is no TIE: DEAD");
        x.falls(3);
        refuses(x, NO, () -> x.ring(3, 0));
        says(13, "BAD ahead of NO");
        refuses(x, BAD, () -> x.ring(0, -1));
    }

    private static void ringEnds() {
        says(13, "The k-th LINE (0 on); NONE: not so many");
        TieOffice x = of(TWO);
        int[] ring = {1, 0, 2, NONE, NONE};
        for (int k = 0; k < 5; k++) due(x.ring(3, k), ring[k]);
        due(x.ring(3, HIGH), NONE);
        due(x.told(0), 0);
        says(13, "of one LINE");
        TieOffice y = of("a;d;b1;+ab1,9;-db1,9;");
        due(y.ring(1, 0), 0);
        due(y.ring(1, 1), NONE);
        says(13, "the longest, of 15 LINES");
        TieOffice z = of(chain(15, 1, "1,99") + "-ap1,99;");
        for (int k = 0; k < 15; k++) due(z.ring(15, k), k);
        due(z.ring(15, 15), NONE);
        due(z.ring(15, 16), NONE);
        says(13, "from its first PLACE to its second one");
        TieOffice w = of(chain(15, 1, "1,99") + "-pa1,99;");
        for (int k = 0; k < 15; k++) due(w.ring(15, k), 14 - k);
        due(w.ring(15, 15), NONE);
        says(13, "LINES above the turn are none of it");
        TieOffice u = of("a;b1;c1;d1;+ab1,9;+bc1,9;+bd1,9;-cd1,9;");
        due(u.ring(3, 0), 1);
        due(u.ring(3, 1), 2);
        due(u.ring(3, 2), NONE);
        says(13, "in the dark, too");
        TieOffice v = of(DARK_LOOP);
        due(v.ring(2, 0), 0);
        due(v.ring(2, 1), 1);
        due(v.ring(2, 2), NONE);
    }

    private static void ringNone() {
        says(13, "all FEEDERS are taken for one PLACE: one of the TIE's PLACES is another FEEDER");
        TieOffice x = of("a;d;b1;c1;+ab1,9;+bc1,9;-dc1,9;");
        due(x.ring(2, 0), 0);
        due(x.ring(2, 1), 1);
        due(x.ring(2, 2), NONE);
        says(13, "none, if its PLACES are both FEEDERS");
        TieOffice y = of("a;b;-ab1,9;");
        due(y.ring(0, 0), NONE);
        due(y.told(1), 0);
        says(13, "none: no way from LIT to DARK");
        TieOffice z = of("a;b1;c1;+bc1,9;-ab1,9;");
        due(z.ring(1, 0), NONE);
        TieOffice far = of("a;b1;c1;d1;e1;+bc1,9;+ad1,9;-ac1,9;-dc1,9;-ce1,9;");
        due(far.ring(2, 0), NONE);
        due(far.ring(3, 0), NONE);
        due(far.ring(4, 0), NONE);
        says(13, "none: no way in the dark");
        TieOffice w = of("b1;c1;d1;e1;+bc1,9;+de1,9;-cd1,9;");
        due(w.ring(2, 0), NONE);
        due(w.told(1), 0);
        says(13, "none: the way that there was is OPEN");
        for (int turn = 0; turn < 16; turn++) {
            TieOffice u = of(turned("a1;b1;c1;+ab1,9;+bc1,9;-ac1,9;", turn));
            due(u.ring(2, 0), 0);
            u.opens(0);
            due(u.ring(2, 0), NONE);
            due(u.ring(0, 0), NONE);
            u.opens(1);
            due(u.ring(0, 0), NONE);
            due(u.ring(1, 0), NONE);
        }
        says(13, "none: two PLACES without LINES");
        due(of("b1;c1;-bc1,9;").ring(0, 0), NONE);
        due(of("a;c1;-ac1,9;").ring(0, 0), NONE);
    }

    private static void gainNumbers() {
        says(14, "BAD: t is no LINE");
        TieOffice x = of(TWO);
        for (int t : NO_NUMBERS) refuses(x, BAD, () -> x.gain(t, 0));
        refuses(x, BAD, () -> x.gain(5, 0));
        says(14, "BAD: l is no LINE");
        for (int l : NO_NUMBERS) refuses(x, BAD, () -> x.gain(3, l));
        refuses(x, BAD, () -> x.gain(3, 5));
        says(14, "BAD ahead of NO");
        refuses(x, BAD, () -> x.gain(0, 5));
        says(14, "NO: t is no TIE: CLOSED");
        refuses(x, NO, () -> x.gain(0, 1));
        says(14, "NO: l is not of its RING: the TIE itself, another TIE, a RING of none");
        refuses(x, NO, () -> x.gain(3, 3));
        refuses(x, NO, () -> x.gain(3, 4));
        refuses(x, NO, () -> x.gain(4, 0));
        says(14, "NO: l is CLOSED, but not of its RING");
        TieOffice y = of("a;b1;c1;d1;+ab1,9;+bc1,9;+bd1,9;-cd1,9;");
        refuses(y, NO, () -> y.gain(3, 0));
        says(14, "NO: t is no TIE: DEAD");
        x.falls(3);
        refuses(x, NO, () -> x.gain(3, 0));
    }

    private static void gains() {
        says(14, "GAIN: above 0, 0, below 0");
        TieOffice x = of("a;d;b3;c3;e3;+ab2,9;+ac1,9;+ae1,9;-db1,9;-dc1,9;-de2,9;");
        due(x.gain(3, 0), 9);
        due(x.gain(4, 1), 0);
        due(x.gain(5, 2), -9);
        says(14, "whether it MAY be or not");
        due(of(steep(0)).gain(3, 2), 504);
        due(of(steep(99)).gain(3, 2), 504);
        says(14, "GAIN in the dark is 0");
        TieOffice y = of(DARK_LOOP);
        due(y.gain(2, 0), 0);
        due(y.gain(2, 1), 0);
        says(14, "the most LOSS there can be, and GAINS of it");
        TieOffice z = of(chain(15, 99, "99,0") + "-ap1,9;");
        due(z.all(0), 99L * 9801 * 1240);
        due(z.gain(15, 7), 9801L * (99 * 1240 - 99 * 140 - 64 - 99 * 140));
        due(z.gain(15, 0), 9801L * (99 * 225 - 225));
        TieOffice w = of(chain(15, 99, "1,0") + "-ap99,9;");
        due(w.gain(15, 0), 9801L * (225 - 99 * 225));
        says(14, "a question changes nothing");
        long before = x.digest();
        x.gain(3, 0);
        due(x.digest(), before);
    }

    private static void exchangesRefused() {
        says(15, "BAD: t is no LINE");
        TieOffice x = of(TWO);
        for (int t : NO_NUMBERS) refuses(x, BAD, () -> x.exchanges(t, 0));
        refuses(x, BAD, () -> x.exchanges(5, 0));
        says(15, "BAD: l is no LINE");
        for (int l : NO_NUMBERS) refuses(x, BAD, () -> x.exchanges(3, l));
        refuses(x, BAD, () -> x.exchanges(3, 5));
        says(15, "BAD ahead of NO");
        refuses(x, BAD, () -> x.exchanges(0, 5));
        says(15, "NO: t is no TIE: CLOSED");
        refuses(x, NO, () -> x.exchanges(0, 1));
        says(15, "NO: l is not of its RING");
        refuses(x, NO, () -> x.exchanges(3, 3));
        refuses(x, NO, () -> x.exchanges(3, 4));
        refuses(x, NO, () -> x.exchanges(4, 0));
        says(15, "NO: t is no TIE: DEAD");
        TieOffice y = of(LOOP);
        y.falls(3);
        refuses(y, NO, () -> y.exchanges(3, 0));
        says(15, "NO ahead of FULL");
        TieOffice z = of("a;b3;c3;d3;e1;+ab1,99;+cd1,99;+bc1,99;+ae1,9;-ad1,0;");
        refuses(z, NO, () -> z.exchanges(4, 3));
        refuses(z, FULL, () -> z.exchanges(4, 0));
    }

    private static void exchangesBear() {
        says(15, "FULL: it MAY not be: above the TIE's LIMIT, not at it");
        TieOffice x = of(steep(5));
        refuses(x, FULL, () -> x.exchanges(3, 2));
        due(x.line(2, 4), 1);
        due(x.line(3, 4), 0);
        due(of(steep(6)).exchanges(3, 2), 0);
        says(15, "FULL: a LINE of the RING on the other side, not at its LIMIT");
        TieOffice y = of(branches(8, 99));
        refuses(y, FULL, () -> y.exchanges(3, 0));
        TieOffice z = of(branches(99, 5));
        refuses(z, FULL, () -> z.exchanges(3, 0));
        due(of(branches(9, 6)).exchanges(3, 0) >= 0 ? 1 : 0, 1);
        says(15, "FULL: a LINE of the RING on the side of the one that is opened, fed from behind");
        TieOffice w = of("a;b3;c3;d3;+ab1,99;+cd1,5;+bc1,99;-ad1,99;");
        refuses(w, FULL, () -> w.exchanges(3, 0));
        due(of("a;b3;c3;d3;+ab1,99;+cd1,6;+bc1,99;-ad1,99;").exchanges(3, 0), 2);
        says(15, "it MAY be: a LINE that is OVER was so ahead of it");
        TieOffice u = of(branches(5, 99));
        due(u.exchanges(3, 0) >= 0 ? 1 : 0, 1);
        due(u.line(1, 5), 9);
        due(u.line(1, 7), 1);
        says(15, "it MAY be: a LINE elsewhere is OVER");
        TieOffice v = of("a;b3;c3;d3;e1;+ab1,99;+cd1,99;+bc1,99;+ae1,0;-ad1,99;");
        due(v.exchanges(4, 2), 0);
    }

    private static void exchangesAnswer() {
        says(15, "how many that MAY be would have a GAIN above 0 then");
        due(of(LOOP).exchanges(3, 0), 2);
        due(of(LOOP).exchanges(3, 2), 0);
        says(15, "that MAY be: others are not counted");
        due(of(steep(3)).exchanges(3, 1), 0);
        due(of(steep(6)).exchanges(3, 1), 1);
        due(of(steep(8)).exchanges(3, 1), 1);
        due(of(steep(9)).exchanges(3, 1), 2);
        says(15, "a GAIN of 0 is not counted");
        due(of("a;b3;c0;+ab1,9;-ac1,9;+bc1,9;").exchanges(1, 2), 0);
        says(15, "a DEAD LINE is no TIE: it is not counted");
        TieOffice dead = of("a;d;b3;c3;+ab2,9;+ac2,9;-db1,9;-dc1,9;");
        due(dead.exchanges(2, 0), 1);
        due(dead.back(), 1);
        due(dead.falls(3), 0);
        due(dead.exchanges(2, 0), 0);
        says(15, "they are counted anew each time");
        TieOffice again = of(LOOP);
        again.best(0);
        due(again.exchanges(3, 0), 2);
        due(again.exchanges(0, 2), 0);
        due(again.exchanges(2, 3), 2);
        says(15, "in the dark it MAY be, too");
        TieOffice x = of(DARK_LOOP);
        due(x.exchanges(2, 0), 0);
        due(x.line(2, 4), 1);
        due(x.line(0, 4), 0);
        says(15, "a GAIN below 0 is no hindrance; S");
        TieOffice y = of("a;d;b3;+ab1,9;-db2,9;");
        due(y.exchanges(1, 0), 1);
        due(y.told(7), 2);
        due(y.place(1, 1), 3);
        due(y.back(), 1);
        due(y.place(1, 1), 0);
    }

    private static void best() {
        says(16, "BAD: what is not 0, 1");
        TieOffice x = of(LOOP);
        for (int what : NO_NUMBERS) refuses(x, BAD, () -> x.best(what));
        refuses(x, BAD, () -> x.best(2));
        says(16, "NONE: there is no TIE");
        TieOffice y = of("a;b3;+ab1,9;");
        due(y.best(0), NONE);
        due(y.best(1), NONE);
        says(16, "NONE: no GAIN is above 0");
        TieOffice z = of("a;b3;c0;+ab1,9;-ac1,9;+bc1,9;");
        due(z.best(0), NONE);
        due(z.best(1), NONE);
        due(z.told(1), 0);
        says(16, "NONE: those with a GAIN above 0 MAY not be");
        due(of(steep(2)).best(0), NONE);
        due(of(steep(2)).best(1), NONE);
        says(16, "of those that MAY be that with the most");
        due(of(steep(99)).best(1), 2);
        due(of(steep(6)).best(1), 2);
        due(of(steep(5)).best(1), 1);
        due(of(steep(3)).best(1), 1);
        says(16, "a GAIN of 1 is enough; LINE 0 and TIE 0 can be it");
        TieOffice w = of("a;d;b1;-db1,9;+ab2,9;");
        due(w.best(0), 0);
        due(w.best(1), 1);
        TieOffice u = of("a;d;b1;+ab2,9;-db1,9;");
        due(u.best(0), 1);
        due(u.best(1), 0);
        says(16, "NONE: a DEAD LINE is no TIE");
        TieOffice v = of(LOOP);
        due(v.best(0), 3);
        v.falls(3);
        due(v.best(0), NONE);
        due(v.best(1), NONE);
        says(16, "NONE in the dark");
        due(of(DARK_LOOP).best(0), NONE);
    }

    private static void bestOfLike() {
        says(16, "of like ones that of the lowest t");
        TieOffice x = of("a;d;b3;c3;+ac2,9;+ab2,9;-db1,9;-dc1,9;");
        due(x.gain(2, 1), 9);
        due(x.gain(3, 0), 9);
        due(x.best(0), 2);
        due(x.best(1), 1);
        says(16, "then of the lowest l, though it comes later on the RING");
        TieOffice y = of(LOOP);
        due(y.ring(3, 1), 2);
        due(y.ring(3, 2), 1);
        due(y.best(1), 1);
        says(16, "then of the lowest l, which comes earlier on the RING");
        TieOffice z = of(chain(15, 1, "1,99") + "-ap1,99;");
        due(z.gain(15, 7), 896);
        due(z.gain(15, 8), 896);
        due(z.best(1), 7);
        says(16, "l, of its RING: a longer RING that was looked at ahead of it is no matter");
        TieOffice u = of("a;f;b3;c3;d3;e9;+ab1,99;+cd1,99;+bc1,99;-da1,99;+ae5,99;-ef1,99;");
        due(u.gain(5, 4), 324);
        due(u.best(0), 5);
        due(u.best(1), 4);
        says(16, "a higher t with more GAIN goes ahead");
        TieOffice w = of("a;d;b3;c4;+ab2,9;+ac2,9;-db1,9;-dc1,9;");
        due(w.best(0), 3);
        due(w.best(1), 1);
    }

    private static void lessens() {
        says(17, "NO: there is none at first");
        TieOffice x = of("a;b3;+ab1,9;");
        refuses(x, NO, x::lessens);
        TieOffice y = of(steep(2));
        refuses(y, NO, y::lessens);
        says(17, "till there is none: NO behind it");
        TieOffice z = of(steep(5));
        due(z.lessens(), 1);
        due(z.all(0), 234);
        due(z.best(0), NONE);
        due(z.best(1), NONE);
        refuses(z, NO, z::lessens);
        says(17, "how often, and one STATE for all");
        TieOffice w = of("a;d;b3;c3;e3;+ab2,9;+ac2,9;+ae2,9;-db1,9;-dc1,9;-de1,9;");
        due(w.lessens(), 3);
        due(w.told(7), 2);
        due(w.all(0), 27);
        due(w.back(), 1);
        due(w.all(0), 54);
        says(17, "the last GAIN is 1");
        TieOffice u = of("a;d;b1;c9;+ab2,9;+ac2,9;-db1,9;-dc1,9;");
        due(u.lessens(), 2);
        due(u.all(0), 82);
    }

    private static void reachNumbers() {
        says(18, "n (0 .. 9): BAD");
        TieOffice x = of(LOOP);
        for (int n : NO_NUMBERS) refuses(x, BAD, () -> x.reach(n, 0));
        refuses(x, BAD, () -> x.reach(10, 0));
        due(x.reach(9, 0), 4);
        due(x.reach(0, 0), 1);
        says(18, "BAD: what is not 0 .. 2");
        for (int what : NO_NUMBERS) refuses(x, BAD, () -> x.reach(0, what));
        refuses(x, BAD, () -> x.reach(0, 3));
        says(18, "in 0: the SHAPE as it is");
        due(x.reach(0, 1), 126);
        due(x.reach(0, 2), 7);
        says(18, "it changes nothing");
        long before = x.digest();
        x.reach(9, 2);
        due(x.digest(), before);
        says(18, "no LINES: one SHAPE of no bits");
        TieOffice y = of("a;b1;");
        due(y.reach(9, 0), 1);
        due(y.reach(9, 1), 0);
        due(y.reach(9, 2), 0);
        says(18, "bits: LINE 23, too");
        TieOffice z = of(brimful().substring(0, 193) + "+cf1,1;");
        due(z.reach(0, 2), 1 << 23);
    }

    private static void reachSteps() {
        says(18, "n EXCHANGES or fewer");
        TieOffice x = of(loops(5, 5, 4, 3));
        // Rings of which i are not as they were: the products of 4, 4, 3, 2, i at a time.
        long[] upTo = {1, 14, 76, 204, 300, 300, 300, 300, 300, 300};
        for (int n = 0; n <= 9; n++) due(x.reach(n, 0), upTo[n]);
        says(18, "the 9th EXCHANGE leads on");
        // CUSTOMERS d .. h hang on b, which bears 17 of them, or on c, which bears 13.
        TieOffice y = of("a;b1;c1;d6;e5;f2;g3;h7;+ab1,18;+ac1,14;+db1,6;-dc1,6;-eb1,5;+ec1,5;+fb1,2;-fc1,2;"
            + "-gb1,3;+gc1,3;+hb1,7;-hc1,7;");
        long[] found = {1, 2, 3, 4, 6, 8, 10, 11, 14, 15};
        for (int n = 0; n <= 9; n++) due(y.reach(n, 0), found[n]);
        says(18, "each looked at once: SHAPES are told apart by which LINES are CLOSED");
        due(of(LOOP).reach(1, 0), 4);
        due(of(LOOP).reach(2, 0), 4);
        says(18, "DEAD LINES are no TIES");
        TieOffice z = of(LOOP);
        z.falls(3);
        due(z.reach(9, 0), 1);
        z.mends(3);
        due(z.reach(9, 0), 4);
        says(18, "in the dark, too");
        due(of(DARK_LOOP).reach(9, 0), 3);
        due(of(DARK_LOOP).reach(9, 1), 0);
    }

    private static void reachMay() {
        says(18, "each of which MAY be as it is done");
        TieOffice x = of(steep(5));
        due(x.reach(9, 0), 2);
        due(x.reach(9, 1), 234);
        due(x.reach(9, 2), 13);
        due(of(steep(2)).reach(9, 0), 1);
        due(of(steep(6)).reach(1, 0), 3);
        due(of(steep(9)).reach(1, 0), 4);
        says(18, "MAY is asked of each SHAPE anew: what is no more OVER stays so");
        // 9 on LINE 0, which bears 8: none leads back to that.
        TieOffice y = of("a;b3;c3;d3;+ab1,8;+cd1,99;+bc1,99;-ad1,99;");
        due(y.reach(1, 0), 4);
        due(y.reach(9, 0), 4);
        due(y.exchanges(3, 2), 0);
        due(y.reach(9, 0), 3);
    }

    private static void reachLeast() {
        says(18, "the LINES that are CLOSED in the one of it: the lowest such number");
        due(of(LOOP).reach(1, 2), 11);
        says(18, "the lowest such number: lower than the SHAPE as it is");
        TieOffice x = of("a;d;b3;-ab1,9;+db1,9;");
        due(x.reach(0, 2), 2);
        due(x.reach(1, 2), 1);
        due(x.reach(1, 1), 9);
        says(18, "the lowest such number: the SHAPE as it is");
        due(of("a;d;b3;+ab1,9;-db1,9;").reach(1, 2), 1);
        says(18, "the least LOSS goes ahead of a lower number");
        TieOffice y = of("a;d;b3;+ab2,9;-db1,9;");
        due(y.reach(1, 1), 9);
        due(y.reach(1, 2), 2);
        says(18, "the least LOSS may be that as it is");
        TieOffice z = of("a;d;b3;-ab2,9;+db1,9;");
        due(z.reach(9, 1), 9);
        due(z.reach(9, 2), 2);
    }

    private static void reachSpent() {
        says(18, "SPENT: more than 300; 300 are not");
        TieOffice x = of(loops(5, 5, 4, 3));
        due(x.reach(9, 0), 300);
        due(x.told(3), 0);
        says(18, "SPENT: 301");
        // Of all sets of 8 of these 13 LINES 301 are RADIAL.
        TieOffice y = of("a;b1;c1;d1;e1;f1;g1;h1;i1;+ab1,99;+ce1,99;+dh1,99;+ad1,99;+bi1,99;+ac1,99;+fg1,99;+af1,99;"
            + "-be1,99;-bf1,99;-de1,99;-eg1,99;-gh1,99;");
        for (int what = 0; what <= 2; what++) {
            int asked = what;
            refuses(y, SPENT, () -> y.reach(9, asked));
        }
        says(18, "BAD ahead of SPENT");
        refuses(y, BAD, () -> y.reach(9, 3));
        refuses(y, BAD, () -> y.reach(10, 0));
        says(18, "SPENT: only in the n in which they were more");
        TieOffice z = of(loops(5, 5, 4, 4));
        due(z.reach(3, 0), 256);
        refuses(z, SPENT, () -> z.reach(4, 0));
        due(z.reach(3, 0), 256);
        due(z.reach(0, 0), 1);
        refuses(z, SPENT, () -> z.reach(9, 2));
        says(18, "SPENT is over when the net is another");
        z.falls(17);
        due(z.reach(9, 0), 100);
        z.back();
        refuses(z, SPENT, () -> z.reach(9, 0));
    }
}
