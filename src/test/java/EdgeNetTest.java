/** Promises 5 to 12: a test for each sentence of the document that names an edge. */
public final class EdgeNetTest extends Checks {
    private static final int[] NO_NUMBERS = {-1, LOW, HIGH, 32, 64, -32};

    public static void main(String[] args) {
        lineNumbers();
        lineRows();
        flows();
        nearer();
        over();
        placeNumbers();
        placeLoads();
        placeHangs();
        placesAlike();
        betweens();
        loadNumbers();
        loadRefused();
        loadBears();
        closesRefused();
        closesRadial();
        closesBears();
        closesAnswer();
        opens();
        falls();
        mends();
        end("EdgeNetTest");
    }

    private static void lineNumbers() {
        says(5, "BAD: there is no such LINE");
        TieOffice x = of(TWO);
        for (int l : NO_NUMBERS) refuses(x, BAD, () -> x.line(l, 0));
        refuses(x, BAD, () -> x.line(5, 0));
        due(x.line(4, 0), 0);
        says(5, "BAD: with 24 LINES 23 is one, 24 is none");
        TieOffice y = of(brimful());
        due(y.line(23, 0), 2);
        due(y.line(0, 1), 1);
        refuses(y, BAD, () -> y.line(24, 0));
        says(5, "BAD: without LINES 0 is none");
        TieOffice z = of("a;b1;");
        refuses(z, BAD, () -> z.line(0, 0));
        says(5, "BAD: what is not 0 .. 7");
        TieOffice w = of(TWO);
        for (int what : NO_NUMBERS) refuses(w, BAD, () -> w.line(0, what));
        refuses(w, BAD, () -> w.line(0, 8));
        due(w.line(0, 7), 0);
        says(5, "BAD: both are wrong, once");
        refuses(w, BAD, () -> w.line(-1, -1));
    }

    private static void lineRows() {
        says(5, "its first PLACE, second one: as told, the higher one may be first");
        TieOffice x = of("p;a1;b1;-pa1,0;+bp99,999;");
        due(x.line(0, 0), 15);
        due(x.line(0, 1), 0);
        due(x.line(1, 0), 1);
        due(x.line(1, 1), 15);
        says(5, "RESISTANCE (1 .. 99) and LIMIT (0 .. 999)");
        due(x.line(0, 2), 1);
        due(x.line(0, 3), 0);
        due(x.line(1, 2), 99);
        due(x.line(1, 3), 999);
        says(5, "0 OPEN, 1 CLOSED, 2 DEAD");
        due(x.line(0, 4), 0);
        due(x.line(1, 4), 1);
        x.falls(0);
        x.falls(1);
        due(x.line(0, 4), 2);
        due(x.line(1, 4), 2);
        x.mends(1);
        due(x.line(1, 4), 0);
    }

    private static void flows() {
        says(5, "FLOW: 0 of an OPEN one");
        TieOffice x = of(TWO);
        due(x.line(3, 5), 0);
        x.opens(1);
        due(x.line(1, 5), 0);
        says(5, "FLOW: 0 of a DEAD one");
        x.falls(2);
        due(x.line(2, 5), 0);
        says(5, "FLOW: 0 in the dark, though CLOSED");
        TieOffice y = of("b7;c9;+bc1,9;");
        due(y.line(0, 4), 1);
        due(y.line(0, 5), 0);
        says(5, "FLOW: the most, 15 CUSTOMERS of 99");
        TieOffice z = of(chain(15, 99, "9,9"));
        due(z.line(0, 5), 1485);
        due(z.line(14, 5), 99);
        says(5, "FLOW: of LOADS of 0 it is 0");
        TieOffice w = of(chain(3, 0, "9,9"));
        due(w.line(0, 5), 0);
        due(w.line(0, 6), 0);
        says(5, "FLOW: all that hang on it, of all branches");
        TieOffice u = of("a;b1;c2;d4;e8;+ab1,9;+bc1,9;+bd1,9;+ae1,9;");
        due(u.line(0, 5), 7);
        due(u.line(1, 5), 2);
        due(u.line(2, 5), 4);
        due(u.line(3, 5), 8);
    }

    private static void nearer() {
        says(5, "its PLACE that is nearer to the FEEDER: the first, the second");
        TieOffice x = of("a;b1;c1;d1;+ba1,9;+bc1,9;+dc1,9;");
        due(x.line(0, 6), 0);
        due(x.line(1, 6), 1);
        due(x.line(2, 6), 2);
        says(5, "NONE: it is not CLOSED, OPEN or DEAD");
        x.opens(2);
        due(x.line(2, 6), NONE);
        x.falls(2);
        due(x.line(2, 6), NONE);
        says(5, "NONE: it is in the dark");
        x.opens(0);
        due(x.line(1, 4), 1);
        due(x.line(1, 6), NONE);
        says(5, "NONE: an OPEN one at a FEEDER");
        due(x.line(0, 6), NONE);
        says(5, "nearer: the other way round, when it is fed from the other end");
        TieOffice y = of("a;b1;c1;+ab1,9;+bc1,9;-ca1,9;");
        due(y.line(1, 6), 1);
        due(y.exchanges(2, 0) >= 0 ? 1 : 0, 1);
        due(y.line(1, 6), 2);
        due(y.line(2, 6), 0);
        due(y.told(0), 0);
    }

    private static void over() {
        says(5, "OVER, if its FLOW is above its LIMIT: not when it is the LIMIT");
        due(of("a;b7;+ab1,7;").line(0, 7), 0);
        due(of("a;b7;+ab1,6;").line(0, 7), 1);
        due(of("a;b7;+ab1,8;").line(0, 7), 0);
        says(5, "OVER: a LIMIT of 0 bears a FLOW of 0");
        due(of("a;b0;+ab1,0;").line(0, 7), 0);
        due(of("a;b1;+ab1,0;").line(0, 7), 1);
        says(5, "OVER: none in the dark, none that is OPEN");
        due(of("c1;b1;+cb1,0;").line(0, 7), 0);
        due(of("a;b1;-ab1,0;").line(0, 7), 0);
        says(5, "OVER: a LIMIT of 999");
        TieOffice x = of(chain(11, 99, "9,999"));
        due(x.line(0, 7), 1);
        due(x.line(1, 7), 0);
        due(x.line(1, 5), 990);
        due(x.load(1, 9), 99);
        due(x.line(0, 5), 999);
        due(x.line(0, 7), 0);
    }

    private static void placeNumbers() {
        says(6, "BAD: there is no such PLACE");
        TieOffice x = of(TWO);
        for (int v : NO_NUMBERS) refuses(x, BAD, () -> x.place(v, 0));
        refuses(x, BAD, () -> x.place(5, 0));
        refuses(x, BAD, () -> x.place(15, 0));
        refuses(x, BAD, () -> x.place(16, 0));
        says(6, "PLACES are numbers 0 (a) .. 15");
        TieOffice y = of("a1;p2;");
        due(y.place(0, 0), 1);
        due(y.place(15, 0), 2);
        refuses(y, BAD, () -> y.place(16, 0));
        refuses(y, BAD, () -> y.place(-1, 0));
        refuses(y, BAD, () -> y.place(1, 0));
        refuses(y, BAD, () -> y.place(14, 0));
        says(6, "BAD: what is not 0 .. 4");
        TieOffice z = of("a1;");
        for (int what : NO_NUMBERS) refuses(z, BAD, () -> z.place(0, what));
        refuses(z, BAD, () -> z.place(0, 5));
        due(z.place(0, 4), 0);
    }

    private static void placeLoads() {
        says(6, "its LOAD: 0 and 99");
        TieOffice x = of("a;b0;c99;");
        due(x.place(1, 0), 0);
        due(x.place(2, 0), 99);
        says(6, "its LOAD: of a FEEDER NONE");
        due(x.place(0, 0), NONE);
        says(6, "LOADS of all that hang on that LINE, its own, too: the last has its own alone");
        TieOffice y = of(chain(15, 99, "9,9"));
        due(y.place(15, 4), 99);
        due(y.place(14, 4), 198);
        due(y.place(1, 4), 1485);
        says(6, "of a FEEDER all that hang on it; on none 0");
        due(y.place(0, 4), 1485);
        due(x.place(0, 4), 0);
        TieOffice z = of("a;d;b1;c2;e4;+ab1,9;+ac1,9;+de1,9;");
        due(z.place(0, 4), 3);
        due(z.place(3, 4), 4);
        says(6, "0: DARK, though others hang with it");
        TieOffice w = of("b3;c4;+bc1,9;");
        due(w.place(1, 4), 0);
        due(w.place(2, 4), 0);
    }

    private static void placeHangs() {
        says(6, "the FEEDER on which it hangs; of a FEEDER itself");
        TieOffice x = of(TWO);
        int[] feeders = {0, 0, 0, 3, 3};
        for (int v = 0; v < 5; v++) due(x.place(v, 1), feeders[v]);
        says(6, "the FEEDER: NONE: DARK");
        x.opens(0);
        due(x.place(1, 1), NONE);
        due(x.place(2, 1), NONE);
        due(x.place(0, 1), 0);
        says(6, "the LINE by which: NONE: a FEEDER, DARK");
        due(x.place(0, 2), NONE);
        due(x.place(1, 2), NONE);
        due(x.place(2, 2), NONE);
        due(x.place(4, 2), 2);
        says(6, "how many LINES lead to its FEEDER: 0 of a FEEDER, NONE: DARK");
        due(x.place(0, 3), 0);
        due(x.place(1, 3), NONE);
        due(x.place(2, 3), NONE);
        due(x.place(4, 3), 1);
        says(6, "how many LINES: the most, 15");
        TieOffice y = of(chain(15, 1, "9,9"));
        due(y.place(15, 3), 15);
        due(y.place(15, 2), 14);
        due(y.place(15, 1), 0);
        says(6, "DARK: no FEEDER at all");
        TieOffice z = of("b3;c4;+bc1,9;");
        for (int what = 1; what <= 3; what++) due(z.place(1, what), NONE);
        for (int what = 1; what <= 3; what++) due(z.place(2, what), NONE);
    }

    private static void placesAlike() {
        says(6, "PLACES a .. p: each may be the FEEDER, or any on the way to it");
        for (int turn = 0; turn < 16; turn++) {
            TieOffice x = of(turned(chain(15, 2, "1,99"), turn));
            for (int i = 0; i < 16; i++) {
                int v = (i + turn) % 16;
                due(x.place(v, 1), turn);
                due(x.place(v, 3), i);
                due(x.place(v, 4), 2 * Math.min(15, 16 - i));
            }
            due(x.all(7), 4 * 1240);
        }
        says(6, "PLACES a .. p: each may be DARK");
        for (int turn = 0; turn < 16; turn++) {
            TieOffice x = of(turned("a9;b;c5;d4;+bc3,9;-ab1,8;+ad1,9;", turn));
            due(x.place(turn, 1), NONE);
            due(x.all(2), 13);
            due(x.all(5), 2);
            due(x.all(7), 75);
            int t = 1;
            refuses(x, FULL, () -> x.closes(t));
            due(x.opens(2), 0);
            due(x.all(2), 13);
        }
        says(6, "the last of 24 LINES, at the highest PLACE");
        TieOffice y = of(brimful().replace("d;", "d1;").replace("l1;", "l;").replace("-cf1,1;", "+le1,1;"));
        due(y.told(6), 24);
        due(y.place(4, 1), 11);
        due(y.place(4, 2), 23);
        due(y.line(23, 6), 11);
        due(y.all(1), 1);
    }

    private static void betweens() {
        says(7, "The LINE between two PLACES: either way round, LINE 0 and LINE 23, too");
        TieOffice x = of(brimful());
        due(x.between(0, 1), 0);
        due(x.between(1, 0), 0);
        due(x.between(2, 5), 23);
        due(x.between(5, 2), 23);
        says(7, "CLOSED, OPEN, DEAD");
        TieOffice y = of(TWO);
        y.falls(1);
        due(y.between(0, 1), 0);
        due(y.between(4, 2), 3);
        due(y.between(2, 1), 1);
        says(7, "NONE");
        due(y.between(0, 2), NONE);
        due(y.between(3, 1), NONE);
        due(y.told(0), 0);
        says(7, "NONE: a PLACE and itself");
        due(y.between(0, 0), NONE);
        due(y.between(4, 4), NONE);
        due(y.told(0), 0);
        says(7, "BAD: the first is no PLACE");
        for (int v : NO_NUMBERS) refuses(y, BAD, () -> y.between(v, 0));
        refuses(y, BAD, () -> y.between(5, 0));
        refuses(y, BAD, () -> y.between(16, 0));
        says(7, "BAD: the second is no PLACE");
        for (int w : NO_NUMBERS) refuses(y, BAD, () -> y.between(0, w));
        refuses(y, BAD, () -> y.between(0, 5));
        refuses(y, BAD, () -> y.between(0, 16));
        says(7, "BAD: neither is one, once");
        refuses(y, BAD, () -> y.between(9, 9));
    }

    private static void loadNumbers() {
        says(8, "A LOAD is n: 0 .. 99; what it was");
        TieOffice x = of("a;b10;");
        due(x.load(1, 0), 10);
        due(x.place(1, 0), 0);
        due(x.load(1, 99), 0);
        due(x.place(1, 0), 99);
        due(x.load(1, 1), 99);
        says(8, "BAD (n, too): below 0, above 99");
        for (int n : new int[] {-1, 100, LOW, HIGH}) refuses(x, BAD, () -> x.load(1, n));
        due(x.place(1, 0), 1);
        says(8, "BAD: no such PLACE");
        for (int v : NO_NUMBERS) refuses(x, BAD, () -> x.load(v, 5));
        refuses(x, BAD, () -> x.load(2, 5));
        refuses(x, BAD, () -> x.load(16, 5));
        says(8, "S");
        TieOffice y = of("a;b10;");
        due(y.load(1, 11), 10);
        due(y.told(7), 2);
        due(y.back(), 1);
        due(y.place(1, 0), 10);
    }

    private static void loadRefused() {
        says(8, "NO: a FEEDER");
        TieOffice x = of(TWO);
        refuses(x, NO, () -> x.load(0, 5));
        refuses(x, NO, () -> x.load(3, 0));
        due(x.place(3, 4), 5);
        says(8, "NO: it is that");
        refuses(x, NO, () -> x.load(4, 5));
        TieOffice y = of("a;b0;");
        refuses(y, NO, () -> y.load(1, 0));
        says(8, "BAD ahead of NO");
        refuses(x, BAD, () -> x.load(0, 100));
        refuses(x, BAD, () -> x.load(0, -1));
        says(8, "NO where it is OVER and stays what it is");
        TieOffice z = of("a;b7;+ab1,6;");
        refuses(z, NO, () -> z.load(1, 7));
    }

    private static void loadBears() {
        says(8, "FULL: that does not BEAR: above the LIMIT, not at it");
        TieOffice x = of("a;b5;+ab1,9;");
        refuses(x, FULL, () -> x.load(1, 10));
        due(x.place(1, 0), 5);
        due(x.load(1, 9), 5);
        refuses(x, FULL, () -> x.load(1, 10));
        says(8, "FULL: a LINE further up");
        TieOffice y = of("a;b5;c1;+ab1,9;+bc1,99;");
        refuses(y, FULL, () -> y.load(2, 5));
        due(y.load(2, 4), 1);
        says(8, "it BEARS: the LINE was OVER ahead of it");
        TieOffice z = of("a;b7;c2;+ab1,6;+bc1,3;");
        due(z.load(1, 99), 7);
        due(z.load(2, 3), 2);
        says(8, "FULL: another LINE comes to be OVER");
        refuses(z, FULL, () -> z.load(2, 4));
        says(8, "it BEARS: less LOAD, though a LINE stays OVER");
        due(z.load(1, 98), 99);
        due(z.line(0, 7), 1);
        says(8, "in the dark nothing is OVER");
        TieOffice w = of("b7;c2;+bc1,0;");
        due(w.load(1, 99), 7);
        due(w.load(2, 99), 2);
        due(w.all(6), 0);
        says(8, "FULL changes nothing, nor what can be gone back to");
        TieOffice u = of("a;b5;+ab1,9;");
        u.load(1, 6);
        u.load(1, 10);
        due(u.told(7), 2);
        due(u.back(), 1);
        due(u.place(1, 0), 5);
    }

    private static void closesRefused() {
        says(9, "BAD: no such LINE");
        TieOffice x = of(TWO);
        for (int l : NO_NUMBERS) refuses(x, BAD, () -> x.closes(l));
        refuses(x, BAD, () -> x.closes(5));
        says(9, "NO: it is no TIE: CLOSED");
        refuses(x, NO, () -> x.closes(0));
        says(9, "NO: it is no TIE: DEAD");
        TieOffice y = of("a;b5;-ab1,9;");
        y.falls(0);
        refuses(y, NO, () -> y.closes(0));
        due(y.mends(0), 0);
        due(y.closes(0), 5);
        says(9, "a TIE told as such, the last of 24");
        TieOffice z = of(brimful());
        due(z.closes(23), 1);
        due(z.line(23, 4), 1);
        refuses(z, BAD, () -> z.closes(24));
    }

    private static void closesRadial() {
        says(9, "NO: it would not be RADIAL: a ring");
        TieOffice x = of(LOOP);
        refuses(x, NO, () -> x.closes(3));
        says(9, "NO: a ring in the dark");
        TieOffice y = of("b1;c1;d1;+bc1,1;+cd1,1;-bd1,1;");
        refuses(y, NO, () -> y.closes(2));
        says(9, "NO: two FEEDERS by one LINE");
        TieOffice z = of(TWO);
        refuses(z, NO, () -> z.closes(4));
        says(9, "NO: two FEEDERS over their CUSTOMERS");
        refuses(z, NO, () -> z.closes(3));
        says(9, "NO: a FEEDER and a CUSTOMER of another one");
        TieOffice w = of("a;d;b1;+ab1,9;-db1,9;");
        refuses(w, NO, () -> w.closes(1));
        says(9, "NO ahead of FULL");
        TieOffice u = of("a;d;b1;+ab1,9;-db1,0;");
        refuses(u, NO, () -> u.closes(1));
        due(u.told(2), 0);
        says(9, "NO is no hindrance to the next one");
        TieOffice v = of("a;d;b1;c1;+ab1,9;-db1,9;-dc1,9;");
        due(v.closes(1), NO);
        due(v.closes(2), 1);
    }

    private static void closesBears() {
        says(9, "FULL: above the TIE's LIMIT, not at it");
        TieOffice x = of("a;b5;c5;-ab1,4;-ac1,5;");
        refuses(x, FULL, () -> x.closes(0));
        due(x.line(0, 4), 0);
        due(x.closes(1), 5);
        says(9, "FULL: a LINE further up, not the TIE");
        TieOffice y = of("a;b5;c5;d4;+ab1,9;-bc1,99;-bd1,99;");
        refuses(y, FULL, () -> y.closes(1));
        due(y.closes(2), 4);
        says(9, "FULL: a LINE in what was dark");
        TieOffice z = of("a;b5;c5;+bc1,4;-ab1,99;");
        refuses(z, FULL, () -> z.closes(1));
        says(9, "it BEARS: the LINE was OVER ahead of it");
        TieOffice w = of("a;b7;c2;+ab1,6;-bc1,2;");
        due(w.closes(1), 2);
        due(w.line(0, 5), 9);
    }

    private static void closesAnswer() {
        says(9, "the LOADS that are LIT by it: 0 in the dark, none was LIT");
        TieOffice x = of("a;b5;c6;-bc1,99;-ab1,99;");
        due(x.closes(0), 0);
        says(9, "all that hang behind it");
        due(x.closes(1), 11);
        says(9, "0: a CUSTOMER of LOAD 0");
        TieOffice y = of("a;b0;-ab1,0;");
        due(y.closes(0), 0);
        due(y.all(5), 0);
        says(9, "a TIE told from the dark end to the LIT one");
        TieOffice z = of("a;b5;-ba1,5;");
        due(z.closes(0), 5);
        says(9, "S");
        due(z.told(7), 2);
        due(z.back(), 1);
        due(z.line(0, 4), 0);
    }

    private static void opens() {
        says(10, "BAD: no such LINE");
        TieOffice x = of(TWO);
        for (int l : NO_NUMBERS) refuses(x, BAD, () -> x.opens(l));
        refuses(x, BAD, () -> x.opens(5));
        says(10, "NO: it is not CLOSED: OPEN");
        refuses(x, NO, () -> x.opens(3));
        says(10, "NO: it is not CLOSED: DEAD");
        x.falls(2);
        refuses(x, NO, () -> x.opens(2));
        due(x.line(2, 4), 2);
        says(10, "the LOADS that are DARK by it: all behind it");
        due(of(TWO).opens(0), 30);
        due(of(TWO).opens(1), 20);
        says(10, "0: it was in the dark");
        due(of("b1;c1;+bc1,1;").opens(0), 0);
        says(10, "0: LOADS of 0");
        due(of("a;c0;+ac1,1;").opens(0), 0);
        says(10, "it is OPEN, a TIE, not DEAD");
        TieOffice y = of("a;b5;+ab1,9;");
        due(y.opens(0), 5);
        due(y.line(0, 4), 0);
        due(y.all(3), 1);
        due(y.all(4), 0);
        says(10, "S");
        due(y.told(7), 2);
        due(y.back(), 1);
        due(y.line(0, 4), 1);
        due(y.all(1), 5);
        says(10, "a LINE that is OVER can be OPEN");
        due(of("a;b5;+ab1,0;").opens(0), 5);
    }

    private static void falls() {
        says(11, "BAD: no such LINE");
        TieOffice x = of(TWO);
        for (int l : NO_NUMBERS) refuses(x, BAD, () -> x.falls(l));
        refuses(x, BAD, () -> x.falls(5));
        says(11, "NO: it is");
        due(x.falls(0), 30);
        refuses(x, NO, () -> x.falls(0));
        says(11, "DEAD (and OPEN): no FLOW, no TIE");
        due(x.line(0, 4), 2);
        due(x.line(0, 5), 0);
        due(x.all(3), 2);
        refuses(x, NO, () -> x.closes(0));
        refuses(x, NO, () -> x.ring(0, 0));
        says(11, "0: it was OPEN, it was in the dark");
        due(x.falls(3), 0);
        due(x.falls(1), 0);
        due(x.all(4), 3);
        due(x.all(3), 1);
        says(11, "all LINES may be DEAD");
        TieOffice y = of(brimful());
        for (int l = 0; l < 24; l++) due(y.falls(l), 0);
        due(y.all(4), 24);
        due(y.all(3), 0);
        says(11, "S");
        TieOffice z = of(TWO);
        due(z.falls(0), 30);
        due(z.told(7), 2);
        due(z.back(), 1);
        due(z.line(0, 4), 1);
        due(z.all(4), 0);
    }

    private static void mends() {
        says(12, "BAD: no such LINE");
        TieOffice x = of(TWO);
        for (int l : NO_NUMBERS) refuses(x, BAD, () -> x.mends(l));
        refuses(x, BAD, () -> x.mends(5));
        says(12, "NO: it is not DEAD: CLOSED, a TIE");
        refuses(x, NO, () -> x.mends(0));
        refuses(x, NO, () -> x.mends(4));
        says(12, "how many are DEAD yet: to 0");
        x.falls(0);
        x.falls(3);
        x.falls(4);
        due(x.mends(3), 2);
        due(x.mends(0), 1);
        due(x.mends(4), 0);
        refuses(x, NO, () -> x.mends(4));
        says(12, "it is OPEN and no more DEAD, not CLOSED again");
        due(x.line(0, 4), 0);
        due(x.all(1), 5);
        due(x.all(4), 0);
        says(12, "S");
        TieOffice y = of(TWO);
        y.falls(0);
        y.mends(0);
        due(y.told(7), 3);
        due(y.back(), 2);
        due(y.line(0, 4), 2);
        due(y.back(), 1);
        due(y.line(0, 4), 1);
    }
}
