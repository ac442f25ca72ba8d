/** Each promise of the document by cases worked out by hand: the ordinary, the edges, the wrong. */
public final class PromiseTest extends Checks {
    public static void main(String[] args) {
        newObject();
        texts();
        faults();
        faultsOfLines();
        lines();
        places();
        betweens();
        loads();
        closing();
        opening();
        falling();
        mending();
        rings();
        gains();
        exchanging();
        bests();
        lessening();
        reaching();
        reachingTooMuch();
        curing();
        curingDone();
        sums();
        backs();
        tolds();
        digests();
        end("PromiseTest");
    }

    private static void newObject() {
        says(1, "by hand");
        TieOffice x = new TieOffice();
        for (int i = 0; i <= 7; i++) due(x.told(i), 0);
        for (int i = 0; i <= 7; i++) due(x.all(i), 0);
        due(x.reach(9, 0), 1);
        due(x.reach(9, 1), 0);
        due(x.reach(9, 2), 0);
        due(x.cure(0, 0), 0);
        due(x.cure(3, 0), NONE);
        due(x.best(0), NONE);
        due(x.back(), NO);
        due(x.lessens(), NO);
        due(x.cures(), NO);
        due(x.line(0, 0), BAD);
        due(x.place(0, 0), BAD);
        due(x.told(1), 3);
        due(x.told(0), 2);
    }

    private static void texts() {
        says(2, "by hand");
        TieOffice x = new TieOffice();
        due(x.type(-1), BAD);
        due(x.type(128), BAD);
        due(x.type(LOW), BAD);
        due(x.type(HIGH), BAD);
        due(x.type(0), 1);
        due(x.type(127), 2);
        for (int i = 3; i <= 200; i++) due(x.type('a'), i);
        due(x.type('a'), FULL);
        due(x.type(128), BAD);
        due(x.told(4), 200);
        due(x.told(0), 5);
        due(x.told(2), 1);
        says(3, "by hand");
        due(x.clear(), 200);
        due(x.clear(), 0);
        due(x.type('a'), 1);
        due(x.type(';'), 2);
        due(x.told(7), 0);
        says(4, "by hand");
        due(x.reads(), 1);
        due(x.told(4), 2);
        due(x.told(5), 1);
        due(x.told(7), 1);
        due(x.reads(), 1);
        due(x.told(7), 2);
        types(x, TWO);
        due(x.reads(), 10);
        due(x.told(5), 5);
        due(x.told(6), 5);
        due(x.clear(), TWO.length());
        due(x.reads(), 0);
        due(x.told(5), 0);
        due(x.told(6), 0);
        due(x.back(), 3);
        due(x.told(6), 5);
        due(x.told(4), 0);
        due(of("a00;b01;c99;p;o5;").told(5), 5);
    }

    private static void faults() {
        says(4, "by hand");
        due(fault(""), -1);
        due(fault(";"), 0);
        due(fault("q;"), 0);
        due(fault("A;"), 0);
        due(fault(" a;"), 0);
        due(fault("a; b;"), 2);
        due(fault("a;;"), 2);
        due(fault("a,"), 1);
        due(fault("aa;"), 1);
        due(fault("a;b5;b"), 5);
        due(fault("a;b5;a7;"), 5);
        due(fault("b123;"), 3);
        due(fault("b12,"), 3);
        due(fault("b1b"), 2);
        due(fault("b"), 1);
        due(fault("b1"), 2);
        due(fault("b12"), 3);
        due(fault("b;c"), 3);
        due(fault("a;b;c;d;e;"), 9);
        due(fault("a;b;c;d;e"), 9);
        due(fault("a;b;c;d;e0;"), -1);
        due(fault("a;b;c1;d;e;f;"), 12);
        due(fault("a1;b1;c1;d1;e1;f1;g1;h1;i1;j1;k1;l1;m1;n1;o1;p1;"), -1);
        due(fault("a1;b1;c1;d1;e1;f1;g1;h1;i1;j1;k1;l1;m1;n1;o1;p1;a"), 48);
    }

    private static void faultsOfLines() {
        String two = "a;b5;";
        due(fault(two + "+ab1,0;"), -1);
        due(fault(two + "-ba99,999;"), -1);
        due(fault(two + "+ab1,000;"), -1);
        due(fault("+a"), 1);
        due(fault(two + "+c"), 6);
        due(fault(two + "+q"), 6);
        due(fault(two + "+ac1,1;c5;"), 7);
        due(fault(two + "+aa1,1;"), 7);
        due(fault(two + "+ab0"), 8);
        due(fault(two + "+ab,"), 8);
        due(fault(two + "+ab123"), 10);
        due(fault(two + "+ab12;"), 10);
        due(fault(two + "+ab1,;"), 10);
        due(fault(two + "+ab1,1234;"), 13);
        due(fault(two + "+ab1,1,"), 11);
        due(fault(two + "*ab1,1;"), 5);
        due(fault(two + "-ab1,1;-ba1,1;"), 14);
        due(fault(two + "-ab1,1;-ab1,1;"), 14);
        due(fault(two + "+"), 6);
        due(fault(two + "+ab1"), 9);
        due(fault(two + "+ab1,1"), 11);
        // A LINE that is not whole takes no part: neither as a ring nor as one that was told.
        due(fault("a;b;+ab1,1"), 10);
        due(fault("a;b;+ab1,1;"), 4);
        due(fault("a;b;-ab1,1;"), -1);
        due(fault("a;b;+ab1,1;?"), 11);
        due(fault("a;b;+ab1,1;c"), 4);
        due(fault("b1;c1;d1;+bc1,1;+cd1,1;+bd1,1;"), 23);
        due(fault("b1;c1;d1;+bc1,1;+cd1,1;-bd1,1;"), -1);
        // a-c-b joins two FEEDERS by its second LINE; the third is not the first such one.
        due(fault("a;b;c1;d1;+ac1,1;+cb1,1;+ab1,1;"), 17);
        due(fault("b1;+"), 4);
        due(fault("a;b1;c1;d1;+bc1,1;+cd1,1;+ab1,1;+ad1,1;"), 32);
        String all = "a;b;c;d;e1;f1;g1;h1;";
        StringBuilder many = new StringBuilder(all);
        int n = 0;
        for (char v = 'a'; v <= 'h'; v++) {
            for (char w = (char) (v + 1); w <= 'h' && n < 24; w++, n++) many.append("-" + v + w + "1,1;");
        }
        due(fault(many.toString()), -1);
        due(of(many.toString()).told(6), 24);
        due(fault(many + "-"), all.length() + 24 * 7);
        due(fault(many + "+"), all.length() + 24 * 7);
        due(fault(many + "i1;"), -1);
    }

    private static void rows(TieOffice x, int l, int... want) {
        for (int i = 0; i < want.length; i++) due(x.line(l, i), want[i]);
    }

    private static void lines() {
        says(5, "by hand");
        TieOffice x = of(TWO);
        rows(x, 0, 0, 1, 2, 50, 1, 30, 0, 0);
        rows(x, 1, 1, 2, 1, 20, 1, 20, 1, 0);
        rows(x, 2, 3, 4, 3, 10, 1, 5, 3, 0);
        rows(x, 3, 2, 4, 1, 40, 0, 0, NONE, 0);
        rows(x, 4, 0, 3, 1, 9, 0, 0, NONE, 0);
        x.falls(0);
        rows(x, 0, 0, 1, 2, 50, 2, 0, NONE, 0);
        rows(x, 1, 1, 2, 1, 20, 1, 0, NONE, 0);
        // Told from the far end: the nearer PLACE is the second one. The FLOW is above the LIMIT by 1.
        TieOffice y = of("b7;a;+ba1,6;");
        rows(y, 0, 1, 0, 1, 6, 1, 7, 0, 1);
        rows(of("b7;a;+ba1,7;"), 0, 1, 0, 1, 7, 1, 7, 0, 0);
        rows(of("b0;a;+ba1,0;"), 0, 1, 0, 1, 0, 1, 0, 0, 0);
        due(x.told(0), 0);
        due(x.line(-1, 0), BAD);
        due(x.line(5, 0), BAD);
        due(x.line(LOW, 0), BAD);
        due(x.line(HIGH, 0), BAD);
        due(x.line(0, -1), BAD);
        due(x.line(0, 8), BAD);
        due(x.told(0), 6);
    }

    private static void placeRow(TieOffice x, int v, int... want) {
        for (int i = 0; i < want.length; i++) due(x.place(v, i), want[i]);
    }

    private static void places() {
        says(6, "by hand");
        TieOffice x = of(TWO);
        placeRow(x, 0, NONE, 0, NONE, 0, 30);
        placeRow(x, 1, 10, 0, 0, 1, 30);
        placeRow(x, 2, 20, 0, 1, 2, 20);
        placeRow(x, 3, NONE, 3, NONE, 0, 5);
        placeRow(x, 4, 5, 3, 2, 1, 5);
        x.opens(0);
        placeRow(x, 0, NONE, 0, NONE, 0, 0);
        placeRow(x, 1, 10, NONE, NONE, NONE, 0);
        placeRow(x, 2, 20, NONE, NONE, NONE, 0);
        due(x.told(0), 0);
        due(x.place(5, 0), BAD);
        due(x.place(15, 0), BAD);
        due(x.place(16, 0), BAD);
        due(x.place(32, 0), BAD);
        due(x.place(-1, 0), BAD);
        due(x.place(LOW, 0), BAD);
        due(x.place(0, 5), BAD);
        due(x.place(0, -1), BAD);
        due(x.told(0), 8);
        placeRow(of("p9;"), 15, 9, NONE, NONE, NONE, 0);
    }

    private static void betweens() {
        says(7, "by hand");
        TieOffice x = of(TWO);
        due(x.between(0, 1), 0);
        due(x.between(1, 0), 0);
        due(x.between(4, 2), 3);
        due(x.between(0, 3), 4);
        due(x.between(0, 2), NONE);
        due(x.between(1, 1), NONE);
        due(x.told(0), 0);
        due(x.between(0, 5), BAD);
        due(x.between(5, 0), BAD);
        due(x.between(-1, 0), BAD);
        due(x.between(0, 16), BAD);
        due(x.told(0), 4);
    }

    private static void loads() {
        says(8, "by hand");
        TieOffice x = of(TWO);
        due(x.load(4, 10), 5);
        due(x.line(2, 5), 10);
        due(x.told(7), 2);
        due(x.load(4, 11), FULL);
        due(x.load(4, 10), NO);
        due(x.load(0, 3), NO);
        due(x.load(0, 100), BAD);
        due(x.load(4, 100), BAD);
        due(x.load(4, -1), BAD);
        due(x.load(5, 1), BAD);
        due(x.load(16, 1), BAD);
        due(x.told(7), 2);
        due(x.place(4, 0), 10);
        due(x.load(4, 0), 10);
        due(x.load(1, 30), 10);
        due(x.load(1, 31), FULL);
        due(x.told(2), 2);
        due(x.told(1), 2);
        due(x.told(0), 5);
        // OVER ahead of it: more on it still BEARS, unless another comes to be OVER.
        TieOffice y = of("a;b7;c2;+ab1,6;+bc1,3;");
        due(y.load(1, 99), 7);
        due(y.load(2, 3), 2);
        due(y.load(2, 4), FULL);
        // In the dark nothing is OVER.
        TieOffice z = of("b7;c2;+bc1,0;");
        due(z.load(1, 99), 7);
        due(z.load(1, 0), 99);
    }

    private static void closing() {
        says(9, "by hand");
        TieOffice x = of("a;d;b10;c20;e5;-ab2,30;+bc1,20;-de3,4;-ce1,40;-ad1,9;-ac1,99;");
        due(x.closes(4), NO);
        due(x.closes(1), NO);
        due(x.closes(2), FULL);
        due(x.closes(3), 0);
        due(x.closes(0), FULL);
        due(x.opens(3), 0);
        due(x.closes(0), 30);
        due(x.told(7), 4);
        due(x.closes(5), NO);
        due(x.closes(0), NO);
        due(x.closes(3), FULL);
        due(x.falls(3), 0);
        due(x.closes(3), NO);
        due(x.closes(-1), BAD);
        due(x.closes(6), BAD);
        due(x.closes(HIGH), BAD);
        due(x.told(0), 3);
        due(x.told(1), 5);
        due(x.told(2), 3);
        // Two customers of two FEEDERS: that would join these. Rings in the dark are rings.
        due(of(TWO).closes(3), NO);
        TieOffice y = of("b1;c1;d1;+bc1,1;+cd1,1;-bd1,1;");
        due(y.closes(2), NO);
        // OVER already, and more so: it BEARS.
        TieOffice z = of("a;b7;c2;+ab1,6;-bc1,2;");
        due(z.closes(1), 2);
        due(z.line(0, 5), 9);
    }

    private static void opening() {
        says(10, "by hand");
        TieOffice x = of(TWO);
        due(x.opens(1), 20);
        due(x.opens(0), 10);
        due(x.opens(0), NO);
        due(x.opens(3), NO);
        due(x.opens(5), BAD);
        due(x.opens(-1), BAD);
        due(x.told(7), 3);
        due(x.line(0, 4), 0);
        due(of(TWO).opens(0), 30);
        due(of("b1;c1;+bc1,1;").opens(0), 0);
    }

    private static void falling() {
        says(11, "by hand");
        TieOffice x = of(TWO);
        due(x.falls(0), 30);
        due(x.falls(1), 0);
        due(x.falls(3), 0);
        due(x.falls(3), NO);
        due(x.falls(0), NO);
        due(x.falls(5), BAD);
        due(x.falls(LOW), BAD);
        due(x.told(7), 4);
        due(x.line(3, 4), 2);
        due(x.line(1, 4), 2);
        due(x.opens(0), NO);
        due(x.ring(3, 0), NO);
        due(x.all(4), 3);
    }

    private static void mending() {
        says(12, "by hand");
        TieOffice x = of(TWO);
        x.falls(0);
        x.falls(3);
        due(x.mends(1), NO);
        due(x.mends(4), NO);
        due(x.mends(0), 1);
        due(x.mends(0), NO);
        due(x.line(0, 4), 0);
        due(x.told(7), 4);
        due(x.mends(3), 0);
        due(x.mends(5), BAD);
        due(x.mends(-1), BAD);
        due(x.closes(0), 30);
    }

    private static void rings() {
        says(13, "by hand");
        TieOffice x = of(TWO);
        due(x.ring(3, 0), 1);
        due(x.ring(3, 1), 0);
        due(x.ring(3, 2), 2);
        due(x.ring(3, 3), NONE);
        due(x.ring(3, HIGH), NONE);
        due(x.ring(4, 0), NONE);
        due(x.told(1), 0);
        due(x.ring(0, 0), NO);
        due(x.ring(0, -1), BAD);
        due(x.ring(3, -1), BAD);
        due(x.ring(5, 0), BAD);
        due(x.ring(-1, 0), BAD);
        // From the first PLACE to the second: told the other way round it comes the other way round.
        TieOffice y = of("a;d;b10;c20;e5;+ab2,50;+bc1,20;+de3,10;-ec1,40;-dc1,9;-ca1,1;");
        due(y.ring(3, 0), 2);
        due(y.ring(3, 1), 0);
        due(y.ring(3, 2), 1);
        due(y.ring(4, 0), 0);
        due(y.ring(4, 1), 1);
        due(y.ring(4, 2), NONE);
        due(y.ring(5, 0), 1);
        due(y.ring(5, 1), 0);
        due(y.ring(5, 2), NONE);
        // The turn lies on a customer: what is above it is not of the RING.
        TieOffice z = of("a;b1;c1;d1;e1;+ab1,9;+bc1,9;+bd1,9;+de1,9;-ec1,9;");
        due(z.ring(4, 0), 3);
        due(z.ring(4, 1), 2);
        due(z.ring(4, 2), 1);
        due(z.ring(4, 3), NONE);
        // In the dark; from light to dark there is no way.
        z.opens(0);
        due(z.ring(4, 0), 3);
        due(z.ring(4, 2), 1);
        due(z.ring(0, 0), NONE);
        due(of("b1;c1;d1;e1;+bc1,1;+de1,1;-cd1,1;").ring(2, 0), NONE);
    }

    private static void gains() {
        says(14, "by hand");
        TieOffice x = of(TWO);
        // 2*100 + 3*625 + 1*400 = 2475; 1*100 + 1*900 + 3*1225 = 4675; 2*1225 + 625 + 25 = 3100.
        due(x.gain(3, 1), -200);
        due(x.gain(3, 0), -2400);
        due(x.gain(3, 2), -825);
        due(x.gain(3, 3), NO);
        due(x.gain(3, 4), NO);
        due(x.gain(4, 0), NO);
        due(x.gain(0, 1), NO);
        due(x.gain(5, 0), BAD);
        due(x.gain(3, 5), BAD);
        due(x.gain(-1, 0), BAD);
        due(x.gain(3, -1), BAD);
        due(x.told(1), 4);
        due(x.told(0), 4);
        // 9 + 36 + 81 = 126 ahead of it; 81 + 36 + 9, 9 + 36 + 9, 36 + 9 + 9 behind it.
        TieOffice y = of(LOOP);
        due(y.gain(3, 0), 0);
        due(y.gain(3, 2), 72);
        due(y.gain(3, 1), 72);
        due(y.told(7), 1);
        // The rest is about the most that can be lost.
        TieOffice z = of("a;b99;c99;d99;e99;f99;g99;h99;i99;j99;k99;l99;m99;n99;o99;"
            + "+ab99,0;+bc99,0;+cd99,0;+de99,0;+ef99,0;+fg99,0;+gh99,0;+hi99,0;+ij99,0;+jk99,0;+kl99,0;+lm99,0;");
        // FLOWS 99 * 12, 99 * 11, .. 99: the squares 1 .. 12 together are 650.
        due(z.all(0), 99L * 9801 * 650);
        due(z.all(7), 99L * 9801 * 650);
        String chain = "a;b99;c99;d99;e99;f99;g99;h99;i99;j99;k99;l99;m99;n99;";
        String linesOfIt = "+ab99,1;+bc99,1;+cd99,1;+de99,1;+ef99,1;+fg99,1;+gh99,1;+hi99,1;+ij99,1;+jk99,1;+kl99,1;+lm99,1;+mn99,1;-an9,999;";
        TieOffice w = of(chain + linesOfIt);
        due(w.all(0), 99L * 9801 * 819);
        // g-h is open, that is the 7th of 13: 6 on either side, 7 on the TIE.
        due(w.gain(13, 6), 9801L * (99L * 819 - 9 * 49 - 99 * (91 + 91)));
        due(w.gain(13, 0), 9801L * (99L * 169 - 9 * 169));
    }

    private static void exchanging() {
        says(15, "by hand");
        TieOffice x = of(TWO);
        due(x.exchanges(3, 1), FULL);
        due(x.exchanges(3, 2), FULL);
        due(x.exchanges(3, 3), NO);
        due(x.exchanges(4, 0), NO);
        due(x.exchanges(1, 0), NO);
        due(x.exchanges(5, 0), BAD);
        due(x.exchanges(3, -1), BAD);
        due(x.told(0), 2);
        due(x.told(1), 3);
        due(x.told(2), 2);
        due(x.told(7), 1);
        TieOffice y = of(LOOP);
        due(y.exchanges(3, 0), 2);
        due(y.told(7), 2);
        due(y.line(0, 4), 0);
        due(y.line(3, 4), 1);
        due(y.line(3, 5), 9);
        due(y.exchanges(0, 2), 0);
        due(y.all(0), 54);
        // One GAIN above 0 is not counted when it MAY not be: the TIE bears 3, not 6.
        TieOffice z = of("a;b3;c3;d3;+ab1,99;+cd1,99;+bc1,99;-ad1,3;");
        due(z.exchanges(3, 2), FULL);
        due(z.exchanges(3, 1), 0);
        due(z.back(), 1);
        due(z.best(1), 1);
        // OVER ahead of it and behind it: it BEARS.
        TieOffice w = of("a;b3;c3;d3;+ab1,1;+cd1,1;+bc1,1;-ad1,99;");
        due(w.exchanges(3, 2), 0);
    }

    private static void bests() {
        says(16, "by hand");
        TieOffice x = of(LOOP);
        due(x.best(0), 3);
        due(x.best(1), 1);
        due(x.best(2), BAD);
        due(x.best(-1), BAD);
        due(x.told(0), 2);
        due(of(TWO).best(0), NONE);
        due(of(TWO).best(1), NONE);
        // Two loops alike: the lowest TIE, though its LINES are higher.
        TieOffice y = of("a;b3;c3;d3;e3;f3;g3;+ab1,99;+bc1,99;+cd1,99;+ae1,99;+ef1,99;+fg1,99;-ag1,99;-ad1,99;");
        due(y.best(0), 6);
        due(y.best(1), 4);
        // The second loop has more to gain: 165 ahead of it, 67 or (c-d open) 61 behind it.
        due(y.load(3, 4), 3);
        due(y.best(0), 7);
        due(y.best(1), 2);
        // The best one does not BEAR: the TIE's LIMIT. A GAIN of 0 is none.
        due(of("a;b3;c3;d3;+ab1,99;+cd1,99;+bc1,99;-ad1,2;").best(0), NONE);
        due(of("a;b3;c0;+ab1,9;-ac1,9;+bc1,9;").best(0), NONE);
    }

    private static void lessening() {
        says(17, "by hand");
        TieOffice x = of(LOOP);
        due(x.lessens(), 1);
        due(x.all(0), 54);
        due(x.told(7), 2);
        due(x.line(1, 4), 0);
        due(x.lessens(), NO);
        due(x.told(7), 2);
        due(x.told(1), 1);
        TieOffice y = of("a;b3;c3;d3;e3;f3;g3;+ab1,99;+bc1,99;+cd1,99;+ae1,99;+ef1,99;+fg1,99;-ag1,99;-ad1,99;");
        due(y.lessens(), 2);
        due(y.all(0), 108);
        due(y.told(7), 2);
        due(y.back(), 1);
        due(y.all(0), 252);
        due(of(TWO).lessens(), NO);
    }

    private static void reaching() {
        says(18, "by hand");
        TieOffice x = of(LOOP);
        due(x.reach(0, 0), 1);
        due(x.reach(0, 1), 126);
        due(x.reach(0, 2), 7);
        due(x.reach(1, 0), 4);
        due(x.reach(1, 1), 54);
        due(x.reach(1, 2), 11);
        due(x.reach(9, 0), 4);
        due(x.told(7), 1);
        due(x.all(0), 126);
        due(x.reach(10, 0), BAD);
        due(x.reach(-1, 0), BAD);
        due(x.reach(0, 3), BAD);
        due(x.reach(0, -1), BAD);
        due(x.reach(HIGH, LOW), BAD);
        due(x.told(0), 5);
        // A way over a worse SHAPE; what does not BEAR is no way.
        TieOffice y = of(TWO);
        due(y.reach(9, 0), 1);
        due(y.reach(9, 1), 2275);
        due(y.reach(9, 2), 7);
        // Two rings of three LINES: 5 SHAPES by one EXCHANGE, 9 by two.
        TieOffice z = of("a;b1;c1;d1;e1;+ab1,99;+bc1,99;+cd1,99;+de1,99;-ac1,99;-ce1,99;");
        due(z.reach(1, 0), 5);
        due(z.reach(2, 0), 9);
        due(z.reach(3, 0), 9);
        // OVER is asked step by step: from a SHAPE in which 0 is not OVER no way leads back to it.
        TieOffice w = of("a;b3;c3;d3;+ab1,8;+cd1,99;+bc1,99;-ad1,99;");
        due(w.reach(1, 0), 4);
        due(w.exchanges(3, 2), 0);
        due(w.reach(1, 0), 3);
        due(w.reach(9, 0), 3);
    }

    private static void reachingTooMuch() {
        // Loops of 5, 5, 4 and 3 LINES at a: 300 SHAPES.
        String four = "a;b1;c1;d1;e1;f1;g1;h1;i1;j1;k1;l1;m1;n1;+ab1,99;+bc1,99;+cd1,99;+de1,99;-ea1,99;"
            + "+af1,99;+fg1,99;+gh1,99;+hi1,99;-ia1,99;+aj1,99;+jk1,99;+kl1,99;-la1,99;+am1,99;+mn1,99;-na1,99;";
        TieOffice x = of(four);
        due(x.reach(4, 0), 300);
        due(x.reach(9, 0), 300);
        due(x.told(3), 0);
        // A net of 301 trees, by Kirchhoff's determinant.
        String more = "a;b1;c1;d1;e1;f1;g1;h1;i1;+ab1,99;+ce1,99;+dh1,99;+ad1,99;+bi1,99;+ac1,99;+fg1,99;+af1,99;"
            + "-be1,99;-bf1,99;-de1,99;-eg1,99;-gh1,99;";
        TieOffice y = of(more);
        long before = y.digest();
        due(y.reach(9, 0), SPENT);
        due(y.reach(9, 1), SPENT);
        due(y.reach(9, 2), SPENT);
        due(y.reach(9, 3), BAD);
        due(y.told(3), 3);
        // RINGS of 3, 2, 3, 4 and 4 LINES.
        due(y.reach(1, 0), 17);
        due(y.told(7), 1);
        due(before == y.digest() ? 1 : 0, 0);
        // Without one LINE it is fewer.
        due(y.falls(12), 0);
        due(y.reach(9, 0) > 0 ? 1 : 0, 1);
    }

    private static void curing() {
        says(19, "by hand");
        // b-c in the dark; by a-b (1) both are LIT, the TIE between them is the lower one.
        TieOffice x = of("a;b4;c5;-bc1,9;-ab1,9;");
        due(x.cure(0, 0), 3);
        due(x.cure(1, 0), 2);
        due(x.cure(2, 0), 9);
        due(x.cure(3, 0), 1);
        due(x.cure(3, 1), 0);
        due(x.cure(3, 2), NONE);
        due(x.cure(3, HIGH), NONE);
        due(x.cure(4, 0), BAD);
        due(x.cure(-1, 0), BAD);
        due(x.cure(0, -1), BAD);
        due(x.cure(3, -1), BAD);
        due(x.told(0), 4);
        due(x.told(7), 1);
        // c alone, b alone, not both: the most LOADS; a LOAD of 0 is worth no TIE.
        TieOffice y = of("a;b4;c5;d0;-bc1,9;-ab1,8;-ac1,8;-ad1,9;");
        due(y.cure(0, 0), 6);
        due(y.load(2, 9), 5);
        due(y.cure(0, 0), 2);
        due(y.cure(2, 0), 4);
        // Like ones: of the fewest TIES, then the lowest as bits.
        TieOffice z = of("a;b4;c5;d9;+ad1,9;-cd1,9;-ac1,99;-bc1,9;-ab1,99;");
        due(z.cure(0, 0), 12);
        due(z.cure(1, 0), 2);
        due(z.falls(3), 0);
        due(z.cure(0, 0), 20);
        due(z.back(), 1);
        due(z.falls(4), 0);
        due(z.cure(0, 0), 12);
        due(z.cure(2, 0), 18);
        due(z.closes(3), 0);
        due(z.cure(0, 0), 4);
        due(z.cure(1, 0), 1);
        due(of("b1;c1;-bc1,1;").cure(1, 0), 0);
        due(of(TWO).cure(1, 0), 0);
        due(of(TWO).cure(2, 0), 35);
        // What is OVER may be so yet.
        TieOffice w = of("a;b7;c2;+ab1,6;-bc1,2;");
        due(w.cure(0, 0), 2);
    }

    private static void curingDone() {
        says(20, "by hand");
        TieOffice x = of("a;b4;c5;-bc1,9;-ab1,9;");
        due(x.cures(), 2);
        due(x.told(7), 2);
        due(x.all(5), 0);
        due(x.all(0), 81 + 25);
        due(x.cures(), NO);
        due(x.told(1), 1);
        due(x.back(), 1);
        due(x.all(5), 2);
        TieOffice y = of(star(12));
        due(y.cure(1, 0), 12);
        due(y.cure(0, 0), 4095);
        due(y.cure(3, 11), 11);
        due(y.cures(), 12);
        TieOffice z = of(star(13));
        due(z.cure(1, 0), SPENT);
        due(z.cure(1, -1), BAD);
        due(z.cures(), SPENT);
        due(z.told(3), 2);
        due(z.told(1), 0);
        due(z.closes(0), 1);
        due(z.cures(), 12);
        // SPENT ahead of NO: nothing can be LIT, but there are 13 of them.
        TieOffice w = of(star(13).replace("a;", "a1;"));
        due(w.cures(), SPENT);
    }

    private static void sums() {
        says(21, "by hand");
        TieOffice x = of(TWO);
        long[] ahead = {2275, 35, 0, 2, 0, 0, 0, 2200};
        for (int i = 0; i <= 7; i++) due(x.all(i), ahead[i]);
        x.falls(1);
        long[] behind = {2 * 100 + 75, 15, 20, 2, 1, 1, 0, 200};
        for (int i = 0; i <= 7; i++) due(x.all(i), behind[i]);
        x.opens(0);
        x.opens(2);
        long[] dark = {0, 0, 35, 4, 1, 3, 0, 0};
        for (int i = 0; i <= 7; i++) due(x.all(i), dark[i]);
        // The most LOADS, not the most LOSS; of like ones the lowest PLACE, not the first told.
        due(of("a;b;c5;d4;+ac1,9;+bd9,9;").all(7), 25);
        due(of("a;b;c4;d5;+ac9,9;+bd1,9;").all(7), 25);
        due(of("b;a;c5;d5;+ac2,9;+bd9,9;").all(7), 50);
        due(of("c5;").all(7), 0);
        due(of("a;b7;c2;+ab1,6;+bc1,1;").all(6), 2);
        due(x.all(8), BAD);
        due(x.all(-1), BAD);
        due(x.all(HIGH), BAD);
        due(x.told(0), 3);
    }

    private static void backs() {
        says(22, "by hand");
        TieOffice x = of(TWO);
        due(x.load(4, 6), 5);
        long first = x.digest();
        due(x.told(7), 2);
        x.falls(0);
        x.mends(0);
        x.closes(0);
        x.opens(1);
        x.load(4, 7);
        x.load(4, 8);
        due(x.told(7), 6);
        due(x.load(4, 8), NO);
        due(x.told(7), 6);
        for (int left = 5; left >= 0; left--) due(x.back(), left);
        due(x.place(4, 0), 6);
        due(x.line(0, 4), 1);
        due(x.back(), NO);
        due(x.told(1), 2);
        due(x.all(0), 2 * 900 + 400 + 3 * 36);
        // THE TEXT does not go back.
        TieOffice y = of(TWO);
        y.clear();
        due(y.type('b'), 1);
        due(y.back(), 0);
        due(y.told(4), 1);
        due(y.told(5), 0);
        due(y.told(6), 0);
        due(first == x.digest() ? 1 : 0, 0);
    }

    private static void tolds() {
        says(23, "by hand");
        TieOffice x = of(TWO);
        due(x.told(4), TWO.length());
        due(x.told(5), 5);
        due(x.told(6), 5);
        due(x.told(7), 1);
        due(x.told(8), BAD);
        due(x.told(-1), BAD);
        due(x.told(LOW), BAD);
        due(x.told(0), 3);
        x.opens(4);
        due(x.told(1), 1);
        x.load(4, 11);
        due(x.told(2), 1);
        due(x.told(3), 0);
    }

    private static void digests() {
        says(24, "by hand");
        long h = 2267;
        for (int i = 0; i < 16; i++) h *= 31;
        due(new TieOffice().digest(), h);
        // a FEEDER, c a CUSTOMER in the dark; one refused; THE TEXT has 15 bytes.
        TieOffice x = of("a;c5;b7;+ab2,6;");
        x.load(0, 0);
        long[] due = {0, 1, 0, 0, 15, 3, 1, 1, 0, -1, 0, -1, 0, 7, 1, 7, 0, 0, 1, 7, 2, 5, -1, -1, -1, 0,
            0, 1, 2, 6, 1, 7, 0, 1, 98, 7, 5, 0, 0, 1, 1, 98};
        h = 2267;
        for (long v : due) h = 31 * h + v;
        due(x.digest(), h);
        due(x.digest(), h);
    }
}
