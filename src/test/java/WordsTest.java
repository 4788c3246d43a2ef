import java.util.Random;

/** Promises 46 to 48: WORDS. */
public final class WordsTest {
    private static final Check c = new Check("WordsTest");

    public static void main(String[] args) {
        known();
        statuses();
        likeBrute();
        many();
        c.end();
    }

    private static void lay(MarginPlan x, int tray, String letters) {
        x.tray(tray, 0, letters.length());
        for (int i = 0; i < letters.length(); i++) {
            x.write(tray, i, letters.charAt(i) - 'a' + 1);
        }
    }

    private static void known() {
        MarginPlan x = new MarginPlan();
        lay(x, 0, "aba");
        lay(x, 1, "aabzbaa");
        c.fine(x, "ways", x.pricked(0, 3, 1, 7), 8);
        c.fine(x, "first", x.prickAt(0, 3, 1, 7, 0), 0);
        c.fine(x, "second", x.prickAt(0, 3, 1, 7, 1), 2);
        c.fine(x, "third", x.prickAt(0, 3, 1, 7, 2), 5);
        c.fine(x, "shortest", x.shortest(0, 3, 1, 7), 5);
        c.fine(x, "one letter", x.pricked(0, 1, 1, 7), 4);
        c.fine(x, "one letter", x.shortest(0, 1, 1, 7), 1);
        c.fine(x, "the first numbers alone", x.pricked(0, 3, 1, 6), 4);
        c.fine(x, "no way", x.pricked(0, 3, 1, 5), 0);
        c.refused(x, "no way", x.prickAt(0, 3, 1, 5, 0), 8);
        c.refused(x, "no way", x.shortest(0, 3, 1, 5), 8);
        c.fine(x, "a way in the same tray", x.pricked(0, 3, 0, 3), 1);
        lay(x, 2, "azzzbzaab");
        lay(x, 3, "ab");
        c.fine(x, "the last is the shortest", x.shortest(3, 2, 2, 9), 2);
        c.fine(x, "the first by places", x.prickAt(3, 2, 2, 9, 1), 4);
    }

    private static void statuses() {
        MarginPlan x = new MarginPlan();
        lay(x, 0, "abcdefghijk");
        lay(x, 1, "abcdefghijkl");
        x.tray(2, 3, 60);
        int[][] wrong = {
            {-1, 1, 1, 1, 1}, {4, 1, 1, 1, 1}, {0, 1, -1, 1, 1}, {3, 1, 4, 1, 1},
            {3, 1, 1, 1, 3}, {0, 1, 3, 1, 3}, {3, 99, 3, 99, 3},
            {0, 12, 1, 1, 4}, {0, 1, 1, 13, 4}, {0, 12, 1, 0, 4}, {0, 0, 1, 13, 4}, {2, 61, 1, 1, 4}, {0, 1, 2, 61, 4},
            {0, 0, 1, 1, 5}, {0, -1, 1, 1, 5}, {0, 11, 1, 1, 5}, {0, 1, 1, 0, 5}, {0, 1, 1, -1, 5},
            {0, 1, 2, 1, 5}, {2, 1, 0, 1, 5},
        };
        for (int[] w : wrong) {
            String call = "(" + w[0] + ", " + w[1] + ", " + w[2] + ", " + w[3] + ")";
            c.refused(x, "pricked" + call, x.pricked(w[0], w[1], w[2], w[3]), w[4]);
            c.refused(x, "prickAt" + call, x.prickAt(w[0], w[1], w[2], w[3], 0), w[4]);
            c.refused(x, "shortest" + call, x.shortest(w[0], w[1], w[2], w[3]), w[4]);
        }
        c.fine(x, "ten letters", x.pricked(0, 10, 1, 12), 1);
        c.refused(x, "k -1", x.prickAt(0, 2, 1, 2, -1), 5);
        c.refused(x, "k 2", x.prickAt(0, 2, 1, 2, 2), 5);
        c.refused(x, "5 ahead of 8", x.prickAt(0, 2, 1, 1, 2), 5);
        x.write(0, 2, 27);
        x.write(1, 2, 0);
        c.fine(x, "what is behind does not matter", x.pricked(0, 2, 1, 2), 1);
        c.refused(x, "letter 27", x.pricked(0, 3, 1, 2), 5);
        c.refused(x, "letter 0", x.pricked(0, 2, 1, 3), 5);
        x.write(2, 0, 1L + (1L << 32));
        c.refused(x, "far above", x.pricked(0, 2, 2, 1), 5);
        x.write(2, 0, 26);
        c.fine(x, "letter 26", x.pricked(2, 1, 2, 1), 1);
    }

    private static void likeBrute() {
        Random random = new Random(5);
        for (int round = 0; round < 60; round++) {
            MarginPlan x = new MarginPlan();
            for (int i = 0; i < 5; i++) {
                int n = 1 + random.nextInt(4);
                int m = 1 + random.nextInt(14);
                String word = letters(random, n);
                String row = letters(random, m);
                lay(x, 0, word);
                lay(x, 1, row);
                compare(x, word, row);
            }
        }
    }

    private static String letters(Random random, int many) {
        StringBuilder text = new StringBuilder();
        for (int i = 0; i < many; i++) {
            text.append((char) ('a' + random.nextInt(3)));
        }
        return text.toString();
    }

    private static void compare(MarginPlan x, String word, String row) {
        int n = word.length();
        int m = row.length();
        long ways = 0;
        int[] first = null;
        int least = 99;
        for (int set = 0; set < 1 << m; set++) {
            if (Integer.bitCount(set) != n) {
                continue;
            }
            int[] places = new int[n];
            int k = 0;
            boolean alike = true;
            for (int i = 0; i < m; i++) {
                if ((set >> i & 1) != 0) {
                    alike &= row.charAt(i) == word.charAt(k);
                    places[k++] = i;
                }
            }
            if (alike) {
                ways++;
                least = Math.min(least, places[n - 1] - places[0] + 1);
                if (first == null || java.util.Arrays.compare(places, first) < 0) {
                    first = places;
                }
            }
        }
        String told = word + " in " + row;
        c.fine(x, told, x.pricked(0, n, 1, m), ways);
        for (int k = 0; k < n; k++) {
            if (first == null) {
                c.refused(x, told, x.prickAt(0, n, 1, m, k), 8);
            } else {
                c.fine(x, told, x.prickAt(0, n, 1, m, k), first[k]);
            }
        }
        if (first == null) {
            c.refused(x, told, x.shortest(0, n, 1, m), 8);
        } else {
            c.fine(x, told, x.shortest(0, n, 1, m), least);
        }
    }

    private static void many() {
        MarginPlan x = new MarginPlan();
        lay(x, 0, "aaaaaaaaaa");
        lay(x, 1, Check.times("a", 60));
        c.fine(x, "10 of 60", x.pricked(0, 10, 1, 60), 75394027566L);
        c.fine(x, "the last", x.prickAt(0, 10, 1, 60, 9), 9);
        c.fine(x, "shortest", x.shortest(0, 10, 1, 60), 10);
    }
}
