import java.util.function.LongSupplier;

/** What the tests share: nets by a text, answers that are due, refused calls. A test extends it. */
abstract class Checks {
    static final int NONE = -1, BAD = -2, NO = -3, FULL = -4, SPENT = -5;
    static final int LOW = Integer.MIN_VALUE, HIGH = Integer.MAX_VALUE;

    /**
     * FEEDERS a, d. LINES: 0 a-b, 1 b-c, 2 d-e CLOSED; 3 c-e, 4 a-d OPEN.
     * FLOWS 30, 20, 5; LOSS 2*900 + 1*400 + 3*25 = 2275.
     */
    static final String TWO = "a;d;b10;c20;e5;+ab2,50;+bc1,20;+de3,10;-ce1,40;-ad1,9;";
    /** A chain a-b-c-d, a TIE back to a: opening b-c (2) or c-d (1) gains the same. */
    static final String LOOP = "a;b3;c3;d3;+ab1,99;+cd1,99;+bc1,99;-ad1,99;";

    private static int wrong = 0;
    private static int tests = 0;
    private static String name = "";
    private static int row = 0;

    /** Begins a test: the promise and the words of the document that it is for. */
    static void says(int promise, String words) {
        name = "promise " + promise + " (" + words + ")";
        row = 0;
        tests++;
    }

    static void due(long got, long want) {
        row++;
        if (got != want) {
            wrong++;
            System.out.println(name + ", row " + row + ": answered " + got + ", due is " + want);
        }
    }

    static void end(String file) {
        if (wrong == 0) System.out.println(file + ": all answers of " + tests + " tests are as due");
        System.exit(wrong == 0 ? 0 : 1);
    }

    static TieOffice of(String text) {
        TieOffice x = new TieOffice();
        types(x, text);
        if (x.reads() < 0) throw new IllegalStateException(text);
        return x;
    }

    static void types(TieOffice x, String text) {
        x.clear();
        for (char c : text.toCharArray()) x.type(c);
    }

    /** The place of the FAULT; -1: none. A FAULT changes and counts nothing. */
    static int fault(String text) {
        TieOffice x = of(TWO);
        types(x, text);
        long before = x.digest();
        int answer = x.reads();
        if (answer >= 0) return -1;
        due(x.digest(), before);
        return -10 - answer;
    }

    /**
     * A call that is refused with why, and changes nothing but how often. In the digest that is
     * one more at the place of told(0) .. told(3), and nothing else.
     */
    static void refuses(TieOffice x, int why, LongSupplier call) {
        long before = x.digest();
        due(call.getAsLong(), why);
        int behindIt = 15 + 6 * x.told(5) + 8 * x.told(6) - (BAD - why);
        long once = 1;
        for (int i = 0; i < behindIt; i++) once *= 31;
        due(x.digest() - before, once);
    }

    /** The same net with each letter so many later, p followed by a: its PLACES are others, nothing else is. */
    static String turned(String text, int by) {
        StringBuilder other = new StringBuilder();
        for (char c : text.toCharArray()) other.append(c < 'a' ? c : (char) ('a' + (c - 'a' + by) % 16));
        return other.toString();
    }

    /** A CUSTOMER each of LOAD n for b and so many behind it, CLOSED LINES from a on, one behind the other. */
    static String chain(int customers, int n, String line) {
        StringBuilder text = new StringBuilder("a;");
        for (int i = 1; i <= customers; i++) text.append((char) ('a' + i)).append(n).append(';');
        for (int i = 1; i <= customers; i++)
            text.append('+').append((char) ('a' + i - 1)).append((char) ('a' + i)).append(line).append(';');
        return text.toString();
    }

    /** CUSTOMERS of LOAD 1, each with a TIE to a. */
    static String star(int customers) {
        StringBuilder text = new StringBuilder("a;");
        for (int i = 1; i <= customers; i++) text.append((char) ('a' + i)).append("1;");
        for (int i = 1; i <= customers; i++) text.append("-a").append((char) ('a' + i)).append("1,9;");
        return text.toString();
    }

    /** 200 bytes: 4 FEEDERS a .. d, 8 CUSTOMERS e .. l of LOAD 1, 24 TIES; the last of them is c-f. */
    static String brimful() {
        StringBuilder text = new StringBuilder("a;b;c;d;e1;f1;g1;h1;i1;j1;k1;l1;");
        int n = 0;
        for (char v = 'a'; v <= 'l'; v++)
            for (char w = (char) (v + 1); w <= 'l' && n < 24; w++, n++) text.append("-" + v + w + "1,1;");
        return text.toString();
    }
}
