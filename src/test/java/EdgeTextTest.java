/** Promises 1 to 4 and THE TEXT: a test for each sentence of the document that names an edge. */
public final class EdgeTextTest extends Checks {
    private static final String DIGITS = "0123456789";
    /** Three PLACES; a and b have a LINE. */
    private static final String BEGUN = "a;b5;c7;-ab1,1;";

    public static void main(String[] args) {
        nothing();
        bytes();
        fullText();
        clears();
        textStays();
        anew();
        items();
        faultsAnswer();
        faultsCountNothing();
        placeBytes();
        lineBytes();
        limitsOfText();
        lettersTold();
        figures();
        rings();
        feedersJoined();
        whichFault();
        tooEarly();
        end("EdgeTextTest");
    }

    private static void nothing() {
        says(1, "Nothing: no PLACE, no LINE");
        TieOffice x = new TieOffice();
        for (int v = 0; v <= 15; v++) due(x.place(v, 0), BAD);
        due(x.line(0, 0), BAD);
        due(x.between(0, 1), BAD);
        due(x.told(0), 18);
        says(1, "Nothing: nothing is counted, THE TEXT is empty, no STATE");
        TieOffice y = new TieOffice();
        for (int i = 0; i <= 7; i++) due(y.told(i), 0);
        for (int i = 0; i <= 7; i++) due(y.all(i), 0);
        due(y.clear(), 0);
        refuses(y, NO, y::back);
        says(1, "Nothing: the empty net has one SHAPE, an empty CURE, no BEST");
        TieOffice z = new TieOffice();
        due(z.reach(0, 0), 1);
        due(z.reach(9, 0), 1);
        due(z.reach(9, 1), 0);
        due(z.reach(9, 2), 0);
        for (int what = 0; what <= 2; what++) due(z.cure(what, 0), 0);
        due(z.cure(3, 0), NONE);
        due(z.best(0), NONE);
        due(z.best(1), NONE);
        refuses(z, NO, z::lessens);
        refuses(z, NO, z::cures);
        says(1, "one object is not another");
        TieOffice one = of(TWO);
        TieOffice other = new TieOffice();
        due(other.told(5), 0);
        due(other.told(4), 0);
        due(one.told(5), 5);
    }

    private static void bytes() {
        says(2, "A byte (0 .. 127): 0 and 127 are");
        TieOffice x = new TieOffice();
        due(x.type(0), 1);
        due(x.type(127), 2);
        due(x.told(0), 0);
        says(2, "BAD: below 0");
        TieOffice y = new TieOffice();
        refuses(y, BAD, () -> y.type(-1));
        refuses(y, BAD, () -> y.type(LOW));
        refuses(y, BAD, () -> y.type('a' - 256));
        due(y.told(4), 0);
        says(2, "BAD: above 127");
        TieOffice z = new TieOffice();
        refuses(z, BAD, () -> z.type(128));
        refuses(z, BAD, () -> z.type(HIGH));
        refuses(z, BAD, () -> z.type('a' + 256));
        due(z.told(4), 0);
        says(2, "a byte comes behind THE TEXT: what was BAD is not there");
        TieOffice w = new TieOffice();
        w.type('a');
        w.type(128);
        w.type('9');
        w.type(-1);
        due(w.type(';'), 3);
        due(w.reads(), 1);
        due(w.place(0, 0), 9);
        says(2, "how many it has");
        TieOffice u = new TieOffice();
        for (int i = 1; i <= 200; i++) due(u.type('x'), i);
    }

    private static void fullText() {
        says(2, "FULL: 200");
        TieOffice x = new TieOffice();
        types(x, brimful());
        due(x.told(4), 200);
        due(x.told(2), 0);
        refuses(x, FULL, () -> x.type(';'));
        refuses(x, FULL, () -> x.type('0'));
        due(x.told(4), 200);
        due(x.told(2), 2);
        says(2, "BAD ahead of FULL");
        refuses(x, BAD, () -> x.type(128));
        refuses(x, BAD, () -> x.type(-1));
        due(x.told(2), 2);
        says(2, "FULL changes nothing: the 200 bytes are read as they were");
        due(x.reads(), 36);
        due(x.line(23, 3), 1);
        says(2, "199 are not FULL");
        TieOffice y = new TieOffice();
        for (int i = 1; i <= 199; i++) y.type('x');
        due(y.type('x'), 200);
        due(y.type('x'), FULL);
        says(2, "after clear it is not FULL");
        y.clear();
        due(y.type('x'), 1);
    }

    private static void clears() {
        says(3, "THE TEXT is empty: how many it had: 0");
        TieOffice x = new TieOffice();
        due(x.clear(), 0);
        due(x.clear(), 0);
        says(3, "how many it had: 1, 200");
        x.type('a');
        due(x.clear(), 1);
        for (int i = 0; i < 201; i++) x.type('a');
        due(x.clear(), 200);
        due(x.clear(), 0);
        due(x.told(4), 0);
        says(3, "what was there is not read again");
        TieOffice y = of("a;b5;c6;");
        y.clear();
        y.type('d');
        due(y.type(';'), 2);
        due(y.reads(), 1);
        due(y.told(5), 1);
        due(y.place(0, 0), BAD);
        says(3, "all but THE TEXT stays, no STATE is left");
        TieOffice z = of(TWO);
        due(z.clear(), TWO.length());
        due(z.told(5), 5);
        due(z.all(0), 2275);
        due(z.told(7), 1);
    }

    private static void textStays() {
        says(4, "THE TEXT (it stays)");
        TieOffice x = of(TWO);
        due(x.told(4), TWO.length());
        due(x.reads(), 10);
        due(x.reads(), 10);
        due(x.clear(), TWO.length());
        says(4, "it stays by a FAULT, too, and can be typed on");
        TieOffice y = new TieOffice();
        types(y, "a;b5");
        due(y.reads(), -14);
        due(y.told(4), 4);
        due(y.type(';'), 5);
        due(y.reads(), 2);
        due(y.place(1, 0), 5);
        says(4, "S: each reading leaves a STATE, one without ITEMS, too");
        TieOffice z = new TieOffice();
        due(z.reads(), 0);
        due(z.told(7), 1);
        due(z.reads(), 0);
        due(z.told(7), 2);
        types(z, "a;");
        due(z.reads(), 1);
        due(z.told(7), 3);
        due(z.back(), 2);
        due(z.told(5), 0);
    }

    private static void anew() {
        says(4, "tells all anew: PLACES and LINES that are not told are gone");
        TieOffice x = of(TWO);
        types(x, "b;c7;");
        due(x.reads(), 2);
        due(x.told(5), 2);
        due(x.told(6), 0);
        due(x.place(0, 0), BAD);
        due(x.line(0, 0), BAD);
        due(x.place(1, 0), NONE);
        due(x.place(2, 0), 7);
        due(x.between(1, 2), NONE);
        says(4, "tells all anew: a FEEDER that was a CUSTOMER has no LOAD, a CUSTOMER that was a FEEDER has one");
        due(x.place(1, 4), 0);
        due(x.all(1), 0);
        due(x.all(2), 7);
        types(x, "b3;c;+cb1,9;");
        due(x.reads(), 3);
        due(x.place(1, 0), 3);
        due(x.place(2, 0), NONE);
        due(x.all(1), 3);
        due(x.all(2), 0);
        says(4, "tells all anew: what was DEAD, switched, loaded is as told");
        TieOffice y = of(TWO);
        y.falls(0);
        y.falls(3);
        y.opens(1);
        y.load(4, 9);
        due(y.reads(), 10);
        due(y.all(4), 0);
        due(y.line(0, 4), 1);
        due(y.line(3, 4), 0);
        due(y.place(4, 0), 5);
        due(y.all(0), 2275);
        says(4, "a text without ITEMS tells that there is nothing");
        TieOffice z = of(TWO);
        z.clear();
        due(z.reads(), 0);
        for (int i = 0; i <= 7; i++) due(z.all(i), 0);
        due(z.told(5), 0);
        due(z.told(6), 0);
        says(4, "what stood behind the last LINE that is told now is gone");
        TieOffice w = of("a;b5;c6;+ab1,9;+bc1,9;");
        types(w, "a;b5;c6;-bc2,8;");
        due(w.reads(), 4);
        due(w.told(6), 1);
        due(w.line(0, 0), 1);
        due(w.line(0, 4), 0);
        due(w.line(1, 0), BAD);
        due(w.all(3), 1);
    }

    private static void items() {
        says(4, "how many ITEMS: 0, 1, the most");
        due(new TieOffice().reads(), 0);
        TieOffice x = new TieOffice();
        types(x, "p0;");
        due(x.reads(), 1);
        types(x, brimful());
        due(x.reads(), 36);
        due(x.told(5), 12);
        due(x.told(6), 24);
        says(4, "THE TEXT (200 bytes at most): of 200 bytes the last is read, too");
        due(x.line(23, 0), 2);
        due(x.line(23, 1), 5);
        due(x.line(23, 4), 0);
        TieOffice y = new TieOffice();
        types(y, brimful().substring(0, 193) + "+cf1,1;");
        due(y.reads(), 36);
        due(y.line(23, 4), 1);
        due(y.all(1), 1);
        says(4, "PLACES a .. p: all 16 in one text");
        TieOffice z = of("p;o1;n1;m1;l1;k1;j1;i1;h1;g1;f1;e1;d1;c1;b1;a1;");
        due(z.told(5), 16);
        due(z.place(15, 0), NONE);
        due(z.place(0, 0), 1);
    }

    private static void faultsAnswer() {
        says(4, "-10 less the FAULT: 0");
        TieOffice x = new TieOffice();
        x.type(';');
        due(x.reads(), -10);
        says(4, "-10 less the FAULT: 199, the last byte of a full text");
        TieOffice y = new TieOffice();
        types(y, brimful().substring(0, 199) + ",");
        due(y.reads(), -209);
        says(4, "-10 less the FAULT: 200, a full text's length");
        TieOffice z = new TieOffice();
        types(z, brimful().substring(0, 199) + "0");
        due(z.reads(), -210);
        due(z.told(5), 0);
    }

    private static void faultsCountNothing() {
        says(4, "By a FAULT nothing counts");
        for (String text : new String[] {"?", "a;b;+ab1,1;", "a"}) {
            TieOffice x = of(TWO);
            x.falls(1);
            types(x, text);
            long before = x.digest();
            due(x.reads() < -9 ? 1 : 0, 1);
            due(x.digest(), before);
            for (int i = 0; i <= 3; i++) due(x.told(i), 0);
            due(x.told(7), 2);
        }
        says(4, "By a FAULT nothing changes, nor what can be gone back to");
        TieOffice y = of(TWO);
        y.load(4, 6);
        types(y, "a;b1;+ab1,1;c");
        due(y.reads(), -23);
        due(y.ring(3, 1), 0);
        due(y.between(2, 4), 3);
        due(y.place(4, 0), 6);
        due(y.back(), 1);
        due(y.place(4, 0), 5);
        due(y.told(6), 5);
        says(4, "a FAULT leaves nothing to the next reading");
        TieOffice z = new TieOffice();
        types(z, "a;b;c1;+ac1,1;+bc1,1;");
        due(z.reads(), -24);
        types(z, "a1;b;c1;+ac1,1;+bc1,1;");
        due(z.reads(), 5);
        due(z.all(4), 0);
        due(z.all(1), 2);
    }

    /** Of all bytes those that are told can stand behind a text, no others. */
    private static void stands(String text, String which) {
        for (int c = 0; c <= 127; c++) {
            int place = fault(text + (char) c);
            boolean can = which.indexOf(c) >= 0;
            due(place == text.length() ? 0 : 1, can ? 1 : 0);
            if (can) due(place, c == ';' ? -1 : text.length() + 1);
        }
    }

    private static void placeBytes() {
        says(4, "an ITEM begins with a letter of a .. p, + or -; no blanks");
        stands("", "abcdefghijklmnop+-");
        says(4, "a letter that was told can not begin one");
        stands(BEGUN, "defghijklmnop+-");
        says(4, "with all letters told only LINES can be");
        stands("a1;b1;c1;d1;e1;f1;g1;h1;i1;j1;k1;l1;m1;n1;o1;p1;", "+-");
        says(4, "v a FEEDER; vN a CUSTOMER: ; or a figure");
        stands(BEGUN + "d", ";" + DIGITS);
        says(4, "N has one or two figures");
        stands(BEGUN + "d0", ";" + DIGITS);
        stands(BEGUN + "d9", ";" + DIGITS);
        says(4, "a figure too many: the third of N");
        stands(BEGUN + "d99", ";");
        stands(BEGUN + "d00", ";");
    }

    private static void lineBytes() {
        says(4, "of a LINE: a letter that was not told, v");
        stands("+", "");
        stands(BEGUN + "+", "abc");
        stands(BEGUN + "-", "abc");
        says(4, "w: not told, w that is v, w of two PLACES that have a LINE");
        stands(BEGUN + "+a", "c");
        stands(BEGUN + "-b", "c");
        stands(BEGUN + "+c", "ab");
        says(4, "R begins with 1 .. 9");
        stands(BEGUN + "+ac", "123456789");
        stands(BEGUN + "-ca", "123456789");
        says(4, "R has one or two figures, then a comma");
        stands(BEGUN + "+ac1", DIGITS + ",");
        stands(BEGUN + "+ac10", ",");
        stands(BEGUN + "+ac99", ",");
        says(4, "M has one to three figures, then ;");
        stands(BEGUN + "+ac1,", DIGITS);
        stands(BEGUN + "+ac1,0", DIGITS + ";");
        stands(BEGUN + "+ac1,00", DIGITS + ";");
        says(4, "a figure too many: the fourth of M");
        stands(BEGUN + "+ac1,000", ";");
        stands(BEGUN + "+ac1,999", ";");
    }

    private static void limitsOfText() {
        says(4, "FEEDERS (4 at most)");
        due(of("a;b;c;d;").told(5), 4);
        due(fault("a;b;c;d;"), -1);
        says(4, "the 5th FEEDER's ;");
        due(fault("a;b;c;d;e;"), 9);
        due(fault("a;b;c;d;e1;f;"), 12);
        due(fault("a;b;c;p9;d;e;"), 12);
        stands("a;b;c;d;e", DIGITS);
        says(4, "LINES (24 at most)");
        due(fault(brimful()), -1);
        String places = "a;b;c;d;e1;f1;g1;h1;";
        StringBuilder lines = new StringBuilder();
        int n = 0;
        for (char v = 'a'; v <= 'h'; v++)
            for (char w = (char) (v + 1); w <= 'h' && n < 24; w++, n++) lines.append("-" + v + w + "1,1;");
        due(of(places + lines).told(6), 24);
        says(4, "the 25th LINE's sign");
        due(fault(places + lines + "-fg1,1;"), 188);
        due(fault(places + lines + "+"), 188);
        stands(places + lines, "ijklmnop");
        says(4, "the 24th LINE's sign can stand");
        String fewer = lines.substring(0, 23 * 7);
        stands(places + fewer, "ijklmnop+-");
    }

    private static void lettersTold() {
        says(4, "a letter that was told: a FEEDER's, a CUSTOMER's, as either");
        due(fault("a;a;"), 2);
        due(fault("a;a1;"), 2);
        due(fault("a1;a;"), 3);
        due(fault("a1;b;a1;"), 5);
        says(4, "of a LINE: told, but only later");
        due(fault("a;+ab1,1;b1;"), 4);
        due(fault("b1;+ab1,1;a;"), 4);
        says(4, "of a LINE: a letter counts as told from its ITEM's ; on");
        due(fault("a;b1;+ab1,1;"), -1);
        says(4, "no two LINES between the same PLACES, either way round, OPEN or CLOSED");
        due(fault("a;b1;+ab1,1;+ab1,1;"), 14);
        due(fault("a;b1;+ab1,1;+ba1,1;"), 14);
        due(fault("a;b1;-ab1,1;+ba1,1;"), 14);
        due(fault("a;b1;-ba1,1;-ab1,1;"), 14);
        due(fault("a;b1;c1;-ab1,1;-bc1,1;-ac1,1;"), -1);
        says(4, "w that is v: a FEEDER, a CUSTOMER");
        due(fault("a;b1;+aa1,1;"), 7);
        due(fault("a;b1;-bb1,1;"), 7);
    }

    private static void figures() {
        says(4, "N has one or two figures: a LOAD of 0 .. 99");
        TieOffice x = of("a0;b00;c9;d09;e99;");
        int[] loads = {0, 0, 9, 9, 99};
        for (int v = 0; v < 5; v++) due(x.place(v, 0), loads[v]);
        due(fault("a100;"), 3);
        due(fault("a000;"), 3);
        says(4, "RESISTANCE (1 .. 99)");
        TieOffice y = of("a;b1;c1;d1;e1;-ab1,5;-ac9,5;-ad10,5;-ae99,5;");
        int[] resistances = {1, 9, 10, 99};
        for (int l = 0; l < 4; l++) due(y.line(l, 2), resistances[l]);
        due(fault("a;b1;-ab100,5;"), 10);
        says(4, "a 0 with which an R begins");
        due(fault("a;b1;-ab0,5;"), 8);
        due(fault("a;b1;-ab01,5;"), 8);
        says(4, "LIMIT (0 .. 999)");
        TieOffice z = of("a;b1;c1;d1;e1;f1;-ab1,0;-ac1,000;-ad1,007;-ae1,10;-af1,999;");
        int[] limits = {0, 0, 7, 10, 999};
        for (int l = 0; l < 5; l++) due(z.line(l, 3), limits[l]);
        due(fault("a;b1;-ab1,1000;"), 13);
        due(fault("a;b1;-ab1,0000;"), 13);
    }

    private static void rings() {
        says(4, "CLOSED LINES make a ring: the + of the one by which");
        due(fault("b1;c1;d1;+bc1,1;+cd1,1;+bd1,1;"), 23);
        due(fault("a;c1;d1;+ac1,1;+cd1,1;+ad1,1;"), 22);
        says(4, "of the first by which, not of a later one");
        due(fault("b1;c1;d1;e1;+bc1,1;+cd1,1;+db1,1;+be1,1;+ed1,1;"), 26);
        says(4, "with those ahead of it: those behind it are no matter");
        due(fault("b1;c1;d1;+bd1,1;+bc1,1;+cd1,1;"), 23);
        says(4, "a ring that is closed by joining two chains");
        due(fault("b1;c1;d1;e1;+bc1,1;+de1,1;+cd1,1;+eb1,1;"), 33);
        due(fault("b1;c1;d1;e1;+bc1,1;+de1,1;+cd1,1;-eb1,1;"), -1);
        says(4, "a ring, whichever PLACES it goes by");
        for (int turn = 0; turn < 16; turn++) {
            due(fault(turned("a1;b1;c1;+ba1,1;+ac1,1;+cb1,1;", turn)), 23);
            due(fault(turned("a1;b1;c1;d1;+ab1,1;+cd1,1;+bd1,1;+ca1,1;", turn)), 33);
        }
        says(4, "an OPEN LINE makes none");
        due(fault("b1;c1;d1;-bc1,1;+cd1,1;+bd1,1;"), -1);
        due(fault("b1;c1;d1;+bc1,1;+cd1,1;-bd1,1;"), -1);
    }

    private static void feedersJoined() {
        says(4, "CLOSED LINES join two FEEDERS: by one LINE");
        due(fault("a;b;+ab1,1;"), 4);
        due(fault("a;b;-ab1,1;"), -1);
        says(4, "join two FEEDERS: over a CUSTOMER, over two");
        due(fault("a;b;c1;+ac1,1;+cb1,1;"), 14);
        due(fault("a;b;c1;+ca1,1;+bc1,1;"), 14);
        due(fault("a;b;c1;d1;+ac1,1;+bd1,1;+cd1,1;"), 24);
        due(fault("a;b;c1;d1;+cd1,1;+ac1,1;+bd1,1;"), 24);
        due(fault("a;b;c1;d1;+cd1,1;+ac1,1;-bd1,1;"), -1);
        says(4, "join two FEEDERS: one that was told behind LINES");
        due(fault("a;c1;+ca1,1;b;+ab1,1;"), 14);
        due(fault("a;c1;+ac1,1;b;+bc1,1;"), 14);
        due(fault("c1;d1;+cd1,1;a;+ad1,1;b;+cb1,1;"), 24);
        says(4, "join two FEEDERS, whichever PLACES they are");
        for (int turn = 0; turn < 16; turn++) {
            due(fault(turned("a;b;c1;+ac1,1;+cb1,1;", turn)), 14);
            due(fault(turned("a;b;c1;+ca1,1;+bc1,1;", turn)), 14);
            due(fault(turned("c;b;a1;d1;+cb1,1;", turn)), 10);
        }
        says(4, "the 4th FEEDER is one, too");
        due(fault("a;b;c;d;e1;+ae1,1;+de1,1;"), 18);
    }

    private static void whichFault() {
        says(4, "a byte that can not stand goes ahead of a ring, though behind it");
        due(fault("a;b;+ab1,1;?"), 11);
        due(fault("a;b;+ab1,1;c1,"), 13);
        says(4, "a ring goes ahead of a text that ends too early");
        due(fault("a;b;+ab1,1;c"), 4);
        due(fault("a;b;+ab1,1;c12"), 4);
        says(4, "of ITEMS that stand whole with their ;");
        due(fault("a;b;+ab1,1"), 10);
        due(fault("a;b;+ab1,999"), 12);
        due(fault("a;b;+ab1,999;"), 4);
        says(4, "the first byte of those that can not stand");
        due(fault("a;?;?"), 2);
        due(fault("a1b;a1"), 2);
    }

    private static void tooEarly() {
        says(4, "the TEXT's length, if it ends too early: behind each byte of an ITEM");
        for (String text : new String[] {BEGUN + "d99;", BEGUN + "d;", BEGUN + "+ca99,999;", BEGUN + "-bc1,0;"}) {
            for (int n = BEGUN.length() + 1; n < text.length(); n++) due(fault(text.substring(0, n)), n);
            due(fault(text), -1);
        }
        says(4, "a text without ITEMS has none");
        due(fault(""), -1);
        says(4, "each ended by ;: one too many is a byte that can not stand");
        due(fault(";"), 0);
        due(fault("a;;"), 2);
    }
}
