/** The edges of Terms 4 on WORDS, and of promises 46 to 48, sentence by sentence. */
public final class EdgesOfWordsTest {
    private static final Check c = new Check("EdgesOfWordsTest");
    private static final int LEAST = Integer.MIN_VALUE;
    private static final int MOST = Integer.MAX_VALUE;
    private static final String SIXTY = Check.times("a", 60);

    public static void main(String[] args) {
        letters();
        lettersOfThese();
        eachBehind();
        howMany();
        firstByPlaces();
        leastLength();
        which();
        missing();
        tooFew();
        numbers();
        statusOrder();
        prickAtPlaces();
        prickAtNone();
        shortestNone();
        changesNothing();
        c.end();
    }

    private static MarginPlan laid(String word, String row) {
        MarginPlan x = new MarginPlan();
        Texts.word(x, 0, word);
        Texts.word(x, 1, row);
        return x;
    }

    /** All three calls, refused with this STATUS. */
    private static void refused(MarginPlan x, int word, int n, int row, int m, int status) {
        String call = "(" + word + ", " + n + ", " + row + ", " + m + ")";
        c.refused(x, "pricked" + call, x.pricked(word, n, row, m), status);
        c.refused(x, "prickAt" + call, x.prickAt(word, n, row, m, 0), status);
        c.refused(x, "shortest" + call, x.shortest(word, n, row, m), status);
    }

    private static void letters() {
        c.says("Terms 4", "WORDS: a TRAY tells letters (1 to 26), one by one");
        MarginPlan x = laid("az", "za");
        c.fine(x, "1", x.prickAt(0, 1, 1, 2, 0), 1);
        Texts.lay(x, 0, 0, 26);
        c.fine(x, "26", x.prickAt(0, 1, 1, 2, 0), 0);
        for (int sort = 0; sort < 4; sort++) {
            for (long no : new long[] {0, 27, -1, -26, 127, 257, 65537, (1L << 32) + 1, Long.MIN_VALUE + 1}) {
                x.tray(2, sort, 2);
                x.write(2, 0, 1);
                x.write(2, 1, no);
                long kept = x.read(2, 1);
                if (kept < 1 || kept > 26) {
                    refused(x, 2, 2, 1, 2, 5);
                    refused(x, 0, 1, 2, 2, 5);
                } else {
                    c.fine(x, "cut to a letter", x.pricked(0, 1, 2, 2), 0);
                }
            }
        }
    }

    private static void lettersOfThese() {
        c.says("Promise 46", "the first n numbers of a TRAY are pricked in a row, the first m numbers of another one");
        MarginPlan x = laid("abc", "abcabc");
        x.write(0, 2, 27);
        x.write(1, 5, 0);
        c.fine(x, "what is behind them does not matter", x.pricked(0, 2, 1, 5), 3);
        refused(x, 0, 3, 1, 5, 5);
        refused(x, 0, 2, 1, 6, 5);
        x.write(0, 2, 3);
        c.fine(x, "three in five", x.pricked(0, 3, 1, 5), 1);
        c.fine(x, "the same TRAY", x.pricked(1, 3, 1, 5), 1);
        c.fine(x, "the same TRAY, all", x.pricked(1, 5, 1, 5), 1);
        c.fine(x, "one letter", x.pricked(0, 1, 1, 5), 2);
    }

    private static void eachBehind() {
        c.says("Terms 4", "the letters of a word are pricked in a row of letters from left to right, each behind the one ahead");
        MarginPlan x = laid("ab", "ba");
        c.fine(x, "not from right to left", x.pricked(0, 2, 1, 2), 0);
        x = laid("aa", "a");
        c.fine(x, "not one place twice", x.pricked(0, 2, 1, 1), 0);
        c.refused(x, "not one place twice", x.prickAt(0, 2, 1, 1, 0), 8);
        c.refused(x, "not one place twice", x.shortest(0, 2, 1, 1), 8);
        x = laid("aa", "aa");
        c.fine(x, "each behind the one ahead", x.pricked(0, 2, 1, 2), 1);
        x = laid("ab", "xayybz");
        c.fine(x, "with others between", x.pricked(0, 2, 1, 6), 1);
    }

    private static void howMany() {
        c.says("Terms 4", "in how many ways");
        MarginPlan x = laid("abab", "xyz");
        c.fine(x, "none: 0, not NONE", x.pricked(0, 4, 1, 3), 0);
        x = laid("a", "a");
        c.fine(x, "one in one", x.pricked(0, 1, 1, 1), 1);
        x = laid("aaaaaaaaaa", SIXTY);
        c.fine(x, "the most there are: 10 of 60", x.pricked(0, 10, 1, 60), 75394027566L);
        c.fine(x, "9 of 60", x.pricked(0, 9, 1, 60), 14783142660L);
        c.fine(x, "10 of 59", x.pricked(0, 10, 1, 59), 62828356305L);
        c.fine(x, "10 of 10", x.pricked(0, 10, 1, 10), 1);
        c.fine(x, "10 of 9", x.pricked(0, 10, 1, 9), 0);
    }

    private static void firstByPlaces() {
        c.says("Terms 4", "the first of these by places");
        MarginPlan x = laid("aba", "aabbaaba");
        int[] places = {0, 2, 4};
        for (int k = 0; k < 3; k++) {
            c.fine(x, "place " + k, x.prickAt(0, 3, 1, 8, k), places[k]);
        }
        x = laid("ab", "axxxxab");
        c.fine(x, "not that of the least LENGTH", x.prickAt(0, 2, 1, 7, 0), 0);
        c.fine(x, "its last", x.prickAt(0, 2, 1, 7, 1), 6);
    }

    private static void leastLength() {
        c.says("Promise 48", "The least LENGTH: places from the first to the last, both counted");
        MarginPlan x = laid("ab", "axxxxab");
        c.fine(x, "the last ones", x.shortest(0, 2, 1, 7), 2);
        c.fine(x, "one place", x.shortest(0, 1, 1, 7), 1);
        x = laid("ab", "abxxxaxb");
        c.fine(x, "the first ones", x.shortest(0, 2, 1, 8), 2);
        x = laid("aba", "abxxabxaba");
        c.fine(x, "3", x.shortest(0, 3, 1, 10), 3);
        c.fine(x, "of the first 9: from 0 or from 4", x.shortest(0, 3, 1, 9), 4);
        x = laid("ab", "a" + Check.times("c", 58) + "b");
        c.fine(x, "the greatest there is", x.shortest(0, 2, 1, 60), 60);
        x = laid("aaaaaaaaaa", SIXTY);
        c.fine(x, "ten", x.shortest(0, 10, 1, 60), 10);
    }

    private static void which() {
        c.says("Promise 46", "(1 either;");
        MarginPlan x = laid("ab", "abab");
        for (int no : new int[] {-1, 4, LEAST, MOST}) {
            refused(x, no, 1, 1, 1, 1);
            refused(x, 0, 1, no, 1, 1);
        }
    }

    private static void missing() {
        c.says("Promise 46", "3 either;");
        MarginPlan x = laid("ab", "abab");
        refused(x, 2, 1, 1, 1, 3);
        refused(x, 0, 1, 2, 1, 3);
        refused(x, 2, 1, 3, 1, 3);
    }

    private static void tooFew() {
        c.says("Promise 46", "4 either;");
        MarginPlan x = laid("ab", "abab");
        refused(x, 0, 3, 1, 4, 4);
        refused(x, 0, 2, 1, 5, 4);
        refused(x, 0, MOST, 1, 4, 4);
        refused(x, 0, 2, 1, MOST, 4);
        c.fine(x, "just as many", x.pricked(0, 2, 1, 4), 3);
        x.tray(2, 0, 0);
        refused(x, 2, 1, 1, 4, 4);
        refused(x, 0, 1, 2, 1, 4);
        refused(x, 2, 0, 1, 4, 5);
    }

    private static void numbers() {
        c.says("Promise 46", "5: n not 1 to 10, m not 1 to 60, a letter not 1 to 26");
        MarginPlan x = laid(SIXTY, SIXTY);
        for (int n : new int[] {0, -1, 11, 60, LEAST}) {
            refused(x, 0, n, 1, 60, 5);
        }
        for (int m : new int[] {0, -1, LEAST}) {
            refused(x, 0, 1, 1, m, 5);
        }
        c.fine(x, "the most", x.pricked(0, 10, 1, 60), 75394027566L);
        c.fine(x, "the least", x.pricked(0, 1, 1, 1), 1);
        c.fine(x, "the most", x.prickAt(0, 10, 1, 60, 9), 9);
        c.fine(x, "the least", x.prickAt(0, 1, 1, 1, 0), 0);
        c.fine(x, "the most", x.shortest(0, 10, 1, 60), 10);
        c.fine(x, "the least", x.shortest(0, 1, 1, 1), 1);
        // A TRAY has 60 numbers at most, so that m above 60 is 4.
        refused(x, 0, 1, 1, 61, 4);
        refused(x, 0, 61, 1, 60, 4);
    }

    private static void statusOrder() {
        c.says("Promise 46", "asked in this order");
        MarginPlan x = laid("a{", "ab{");
        refused(x, 2, 1, 4, 1, 1);
        refused(x, 4, 1, 2, 1, 1);
        refused(x, 4, 0, 1, 99, 1);
        refused(x, 2, 99, 1, 99, 3);
        refused(x, 0, 99, 2, 0, 3);
        refused(x, 2, 0, 1, 0, 3);
        refused(x, 0, 0, 1, 99, 4);
        refused(x, 0, 99, 1, 0, 4);
        refused(x, 0, 2, 1, 4, 4);
        refused(x, 0, 3, 1, 3, 4);
        refused(x, 0, 2, 1, 2, 5);
        refused(x, 0, 1, 1, 3, 5);
    }

    private static void prickAtPlaces() {
        c.says("Promise 47", "The k-th place (k 0 to n less 1) of the first of these ways (1; 3; 4; 5: k, too; 8: there is none).");
        MarginPlan x = laid("ab", "xaxb");
        c.fine(x, "the first", x.prickAt(0, 2, 1, 4, 0), 1);
        c.fine(x, "the last", x.prickAt(0, 2, 1, 4, 1), 3);
        for (int k : new int[] {-1, 2, 10, LEAST, MOST}) {
            c.refused(x, "k " + k, x.prickAt(0, 2, 1, 4, k), 5);
            c.refused(x, "4 ahead of k's 5", x.prickAt(0, 3, 1, 4, k), 4);
            c.refused(x, "3 ahead of k's 5", x.prickAt(0, 2, 2, 4, k), 3);
            c.refused(x, "1 ahead of k's 5", x.prickAt(0, 2, 4, 4, k), 1);
            c.refused(x, "k's 5 ahead of 8", x.prickAt(0, 2, 1, 3, k), 5);
        }
        c.refused(x, "by n, not by what the TRAY has", x.prickAt(0, 1, 1, 4, 1), 5);
    }

    private static void prickAtNone() {
        c.says("Promise 47", "8: there is none");
        MarginPlan x = laid("ab", "xaxb");
        c.refused(x, "b is not among the first three", x.prickAt(0, 2, 1, 3, 0), 8);
        c.refused(x, "nor its place", x.prickAt(0, 2, 1, 3, 1), 8);
        c.fine(x, "of a alone", x.prickAt(0, 1, 1, 3, 0), 1);
        c.refused(x, "a is not the first", x.prickAt(0, 1, 1, 1, 0), 8);
    }

    private static void shortestNone() {
        c.says("Promise 48", "(1; 3; 4; 5; 8)");
        MarginPlan x = laid("ab", "xaxb");
        c.refused(x, "8", x.shortest(0, 2, 1, 3), 8);
        c.fine(x, "just", x.shortest(0, 2, 1, 4), 3);
        x.write(0, 1, 0);
        c.refused(x, "5 ahead of 8", x.shortest(0, 2, 1, 3), 5);
    }

    private static void changesNothing() {
        c.says("Terms 4", "a TRAY tells letters");
        MarginPlan x = laid("ab", "abab");
        x.pricked(0, 2, 1, 4);
        x.prickAt(0, 2, 1, 4, 0);
        x.shortest(0, 2, 1, 4);
        for (int i = 0; i < 4; i++) {
            c.fine(x, "the row is as it was", x.read(1, i), 1 + i % 2);
        }
        c.fine(x, "so is the word", x.read(0, 0) * 10 + x.read(0, 1), 12);
        x.write(1, 3, 3);
        c.fine(x, "asked anew by what is there now", x.pricked(0, 2, 1, 4), 1);
    }
}
