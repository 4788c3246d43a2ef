/** The edges of Terms 1 on TRAYS, and of promises 1 to 8, sentence by sentence. */
public final class EdgesOfTraysTest {
    private static final Check c = new Check("EdgesOfTraysTest");
    private static final int LEAST = Integer.MIN_VALUE;
    private static final int MOST = Integer.MAX_VALUE;

    public static void main(String[] args) {
        newObject();
        latestStatus();
        whichTrays();
        missingAtFirst();
        sorts();
        cuts();
        lengths();
        allZero();
        trayOrder();
        writePlaces();
        readPlaces();
        readOfMinusOne();
        pourPlaces();
        pourNothing();
        pourInItself();
        pourOrder();
        c.end();
    }

    private static void newObject() {
        c.says("Promise 1", "TRAYS are MISSING, a BOOK of nothing, no ROUNDS, MARKS, an empty tape; STATUS 0, the FRACTION 0 by 1.");
        c.due("status()", new MarginPlan().status(), 0);
        c.due("top()", new MarginPlan().top(), 0);
        c.due("bottom()", new MarginPlan().bottom(), 1);
        for (int tray = 0; tray < 4; tray++) {
            MarginPlan x = new MarginPlan();
            c.refused(x, "read(" + tray + ", 0)", x.read(tray, 0), 3);
        }
        for (int what = 0; what < 9; what++) {
            MarginPlan x = new MarginPlan();
            c.fine(x, "many(" + what + ")", x.many(what), 0);
        }
        MarginPlan x = new MarginPlan();
        c.refused(x, "cell(0, 0)", x.cell(0, 0), 2);
        c.refused(x, "secret(0)", x.secret(0), 2);
        c.refused(x, "page(0, 0)", x.page(0, 0), 2);
        c.refused(x, "orderAt(0)", x.orderAt(0), 8);
        c.refused(x, "next()", x.next(), 8);
        c.refused(x, "live(0)", x.live(0), 8);
        c.refused(x, "lived(0)", x.lived(0), 8);
        c.refused(x, "bestAt(0)", x.bestAt(0), 8);
        c.refused(x, "back()", x.back(), 8);
        c.refused(x, "book(1) of the empty tape", x.book(1), 5);
        c.due("fault(0)", x.fault(0), -1);
        c.due("fault(1)", x.fault(1), -1);
        c.due("feed", x.feed(0, 0, 0, 0, 0), 20);
        c.due("all three MARKS are to be had", new MarginPlan().mark(), 1);
    }

    private static void latestStatus() {
        c.says("Promise 2", "The STATUS of the latest call that has one.");
        MarginPlan x = new MarginPlan();
        x.many(9);
        c.due("refused", x.status(), 5);
        c.due("asked again", x.status(), 5);
        x.fault(0);
        x.top();
        x.bottom();
        x.feed(0, 0, 0, 0, 0);
        c.due("behind fault, top, bottom, feed", x.status(), 5);
        x.page(0, 0);
        c.due("refused otherwise", x.status(), 2);
        x.many(8);
        c.due("not refused", x.status(), 0);
        x.tray(0, 0, -1);
        c.due("a refused boolean", x.status(), 6);
        x.tray(0, 0, 0);
        c.due("a boolean", x.status(), 0);
        x.read(0, 0);
        c.due("a refused long", x.status(), 4);
        x.caught();
        c.due("a FRACTION", x.status(), 0);
    }

    private static void whichTrays() {
        c.says("Terms 1", "TRAYS, 0 to 3,");
        MarginPlan x = new MarginPlan();
        c.fine(x, "the first", x.tray(0, 0, 1));
        c.fine(x, "the last", x.tray(3, 0, 1));
        for (int tray : new int[] {-1, 4, LEAST, MOST}) {
            c.refused(x, "tray " + tray, x.tray(tray, 0, 1), 1);
            c.refused(x, "write to " + tray, x.write(tray, 0, 1), 1);
            c.refused(x, "read of " + tray, x.read(tray, 0), 1);
            c.refused(x, "pour from " + tray, x.pour(tray, 0, 0, 0, 1), 1);
            c.refused(x, "pour to " + tray, x.pour(0, 0, tray, 0, 1), 1);
        }
    }

    private static void missingAtFirst() {
        c.says("Terms 1", "are MISSING at first");
        MarginPlan x = new MarginPlan();
        c.refused(x, "read", x.read(0, 0), 3);
        c.refused(x, "write", x.write(3, 0, 1), 3);
        x.tray(0, 0, 0);
        c.refused(x, "a TRAY of no numbers is not MISSING", x.read(0, 0), 4);
        c.refused(x, "the others still are", x.read(1, 0), 3);
        x.tray(1, 0, 61);
        c.refused(x, "so it is behind a refused tray()", x.read(1, 0), 3);
    }

    private static void sorts() {
        c.says("Terms 1", "rows of numbers of 8 bits (sort 0), 16 (1), 32 (2) or 64 (3), with sign");
        MarginPlan x = new MarginPlan();
        long[] highest = {127, 32767, 2147483647L, Long.MAX_VALUE};
        for (int sort = 0; sort < 4; sort++) {
            c.fine(x, "sort " + sort, x.tray(sort, sort, 2));
            c.fine(x, "the highest", x.write(sort, 0, highest[sort]));
            c.fine(x, "the highest", x.read(sort, 0), highest[sort]);
            c.fine(x, "the lowest", x.write(sort, 1, -highest[sort] - 1));
            c.fine(x, "the lowest", x.read(sort, 1), -highest[sort] - 1);
        }
        for (int sort : new int[] {-1, 4, LEAST, MOST}) {
            c.refused(x, "sort " + sort, x.tray(0, sort, 2), 1);
        }
    }

    private static void cuts() {
        c.says("Terms 1", "what is written is cut to these.");
        MarginPlan x = new MarginPlan();
        for (int sort = 0; sort < 4; sort++) {
            x.tray(sort, sort, 6);
        }
        for (int sort = 0; sort < 3; sort++) {
            long half = 1L << ((8 << sort) - 1);
            cut(x, sort, half, -half);
            cut(x, sort, -half - 1, half - 1);
            cut(x, sort, 2 * half, 0);
            cut(x, sort, 2 * half - 1, -1);
            cut(x, sort, 2 * half + 1, 1);
            cut(x, sort, -2 * half, 0);
            cut(x, sort, Long.MIN_VALUE, 0);
            cut(x, sort, Long.MAX_VALUE, -1);
        }
        cut(x, 3, Long.MIN_VALUE, Long.MIN_VALUE);
        cut(x, 3, Long.MAX_VALUE, Long.MAX_VALUE);
    }

    private static void cut(MarginPlan x, int tray, long v, long kept) {
        c.fine(x, "write of " + v, x.write(tray, 5, v));
        c.fine(x, v + " by sort " + tray, x.read(tray, 5), kept);
    }

    private static void lengths() {
        c.says("Promise 5", "A TRAY is a row of so many numbers (at most 60; 5)");
        MarginPlan x = new MarginPlan();
        c.fine(x, "the least", x.tray(0, 0, 0));
        c.refused(x, "it has no place", x.read(0, 0), 4);
        c.fine(x, "the most", x.tray(0, 0, 60));
        c.fine(x, "the last place", x.read(0, 59), 0);
        c.refused(x, "none behind it", x.read(0, 60), 4);
        c.refused(x, "61", x.tray(0, 0, 61), 5);
        c.refused(x, "by far too many", x.tray(0, 0, MOST), 5);
        c.says("Terms 5", "6 below 0 (a TRAY's length)");
        c.refused(x, "-1", x.tray(0, 0, -1), 6);
        c.refused(x, "by far too few", x.tray(0, 0, LEAST), 6);
        c.fine(x, "the old one stays", x.read(0, 59), 0);
    }

    private static void allZero() {
        c.says("Promise 5", "all 0");
        MarginPlan x = new MarginPlan();
        x.tray(2, 3, 60);
        for (int i = 0; i < 60; i++) {
            x.write(2, i, -7 - i);
        }
        x.tray(2, 3, 10);
        x.tray(2, 0, 60);
        for (int i = 0; i < 60; i++) {
            c.fine(x, "place " + i + " of one made anew", x.read(2, i), 0);
        }
        x.write(2, 0, 300);
        c.fine(x, "its sort is the new one", x.read(2, 0), 44);
        x.tray(2, 0, 1);
        c.refused(x, "so is its length", x.read(2, 1), 4);
    }

    private static void trayOrder() {
        c.says("Promise 5", "(1; 5; 6)");
        MarginPlan x = new MarginPlan();
        c.refused(x, "1 ahead of 5", x.tray(4, 0, 61), 1);
        c.refused(x, "1 ahead of 6", x.tray(-1, 0, -1), 1);
        c.says("Terms 5", "1 no such TRAY (or sort).");
        c.refused(x, "a sort's 1 ahead of 5", x.tray(0, 4, 61), 1);
        c.refused(x, "a sort's 1 ahead of 6", x.tray(0, -1, -1), 1);
    }

    private static void writePlaces() {
        c.says("Promise 6", "A number comes to a place of a TRAY (1; 3; 4).");
        MarginPlan x = new MarginPlan();
        x.tray(1, 2, 3);
        c.fine(x, "the first place", x.write(1, 0, 11));
        c.fine(x, "the last place", x.write(1, 2, 33));
        for (int place : new int[] {-1, 3, LEAST, MOST}) {
            c.refused(x, "place " + place, x.write(1, place, 9), 4);
        }
        c.fine(x, "it came there", x.read(1, 0), 11);
        c.fine(x, "and to no other", x.read(1, 1), 0);
        c.fine(x, "it came there", x.read(1, 2), 33);
        c.refused(x, "1 ahead of 4", x.write(4, -1, 9), 1);
        c.refused(x, "3 ahead of 4", x.write(0, -1, 9), 3);
    }

    private static void readPlaces() {
        c.says("Promise 7", "(1; 3; 4)");
        MarginPlan x = new MarginPlan();
        Texts.lay(x, 1, 2, 11, 22, 33);
        c.fine(x, "the first place", x.read(1, 0), 11);
        c.fine(x, "the last place", x.read(1, 2), 33);
        for (int place : new int[] {-1, 3, LEAST, MOST}) {
            c.refused(x, "place " + place, x.read(1, place), 4);
        }
        c.refused(x, "1 ahead of 4", x.read(4, -1), 1);
        c.refused(x, "3 ahead of 4", x.read(0, -1), 3);
    }

    private static void readOfMinusOne() {
        c.says("Promise 7", "STATUS tells NONE from -1");
        MarginPlan x = new MarginPlan();
        Texts.lay(x, 0, 0, -1);
        c.fine(x, "-1", x.read(0, 0), -1);
        c.refused(x, "NONE", x.read(0, 1), 4);
        c.fine(x, "-1", x.read(0, 0), -1);
    }

    private static void pourPlaces() {
        c.says("Promise 8", "So many numbers from place i on of a TRAY come to place j on of another one");
        MarginPlan x = new MarginPlan();
        Texts.lay(x, 0, 1, 1, 2, 3, 4, 5);
        Texts.lay(x, 1, 1, 6, 7, 8);
        c.fine(x, "all of the shorter", x.pour(0, 2, 1, 0, 3));
        c.due("numbers", row(x, 1, 3), "3 4 5 ");
        c.fine(x, "one, the last to the last", x.pour(0, 0, 1, 2, 1));
        c.due("numbers", row(x, 1, 3), "3 4 1 ");
        c.refused(x, "one too many for this", x.pour(0, 3, 1, 0, 3), 4);
        c.refused(x, "one too many for that", x.pour(0, 0, 1, 1, 3), 4);
        c.refused(x, "from behind the last", x.pour(0, 5, 1, 0, 1), 4);
        c.refused(x, "to behind the last", x.pour(0, 0, 1, 3, 1), 4);
        c.refused(x, "from below", x.pour(0, -1, 1, 0, 1), 4);
        c.refused(x, "to below", x.pour(0, 0, 1, -1, 1), 4);
        c.refused(x, "so many as there are none", x.pour(0, 1, 1, 0, MOST), 4);
        c.refused(x, "a place as there is none", x.pour(0, MOST, 1, 0, 1), 4);
        c.refused(x, "a place as there is none", x.pour(0, 0, 1, MOST, MOST), 4);
        c.refused(x, "a place as there is none", x.pour(0, LEAST, 1, LEAST, 1), 4);
        c.due("nothing came", row(x, 1, 3), "3 4 1 ");
        c.due("nothing went", row(x, 0, 5), "1 2 3 4 5 ");
        x.tray(2, 3, 60);
        x.tray(3, 3, 60);
        x.write(2, 0, 77);
        x.write(2, 59, Long.MIN_VALUE);
        c.fine(x, "all 60", x.pour(2, 0, 3, 0, 60));
        c.fine(x, "the first", x.read(3, 0), 77);
        c.fine(x, "the last", x.read(3, 59), Long.MIN_VALUE);
    }

    private static void pourNothing() {
        c.says("Promise 8", "(with 0 numbers, too, if a place is above how many there are)");
        MarginPlan x = new MarginPlan();
        Texts.lay(x, 0, 1, 1, 2, 3, 4, 5);
        Texts.lay(x, 1, 1, 6, 7, 8);
        c.fine(x, "none, behind the last of both", x.pour(0, 5, 1, 3, 0));
        c.refused(x, "one above here", x.pour(0, 6, 1, 3, 0), 4);
        c.refused(x, "one above there", x.pour(0, 5, 1, 4, 0), 4);
        c.refused(x, "one below here", x.pour(0, -1, 1, 3, 0), 4);
        c.refused(x, "one below there", x.pour(0, 5, 1, -1, 0), 4);
        x.tray(2, 1, 0);
        c.fine(x, "none of none", x.pour(2, 0, 1, 0, 0));
        c.refused(x, "one of none", x.pour(2, 0, 1, 0, 1), 4);
        c.due("nothing came", row(x, 1, 3), "6 7 8 ");
    }

    private static void pourInItself() {
        c.says("Promise 8", "or the same, as they were");
        MarginPlan x = new MarginPlan();
        Texts.lay(x, 0, 0, 1, 2, 3, 4, 5);
        c.fine(x, "up", x.pour(0, 0, 0, 1, 4));
        c.due("numbers", row(x, 0, 5), "1 1 2 3 4 ");
        c.fine(x, "down", x.pour(0, 1, 0, 0, 4));
        c.due("numbers", row(x, 0, 5), "1 2 3 4 4 ");
        c.fine(x, "on itself", x.pour(0, 0, 0, 0, 5));
        c.due("numbers", row(x, 0, 5), "1 2 3 4 4 ");
    }

    private static void pourOrder() {
        c.says("Promise 8", "asked in this order.");
        MarginPlan x = new MarginPlan();
        x.tray(0, 2, 5);
        x.tray(1, 1, 3);
        x.tray(2, 2, 3);
        c.refused(x, "1 of the second ahead of 3 of the first", x.pour(3, 0, 4, 0, -1), 1);
        c.refused(x, "1 of the first ahead of 3 of the second", x.pour(4, 0, 3, 0, -1), 1);
        c.refused(x, "3 of the first ahead of 6, 4", x.pour(3, 9, 0, 9, -1), 3);
        c.refused(x, "3 of the second ahead of 6, 4", x.pour(0, 9, 3, 9, -1), 3);
        c.refused(x, "11 ahead of 6, 4", x.pour(0, 9, 1, 9, -1), 11);
        c.refused(x, "11 with 0 numbers", x.pour(0, 0, 1, 0, 0), 11);
        c.refused(x, "6 ahead of 4", x.pour(0, 9, 2, 9, -1), 6);
        c.refused(x, "6 far below", x.pour(0, 0, 2, 0, LEAST), 6);
        c.refused(x, "4", x.pour(0, 9, 2, 9, 1), 4);
    }

    private static String row(MarginPlan x, int tray, int many) {
        StringBuilder s = new StringBuilder();
        for (int i = 0; i < many; i++) {
            s.append(x.read(tray, i)).append(' ');
        }
        return s.toString();
    }
}
