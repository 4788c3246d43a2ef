import java.util.function.ToIntFunction;

/** The edges of Terms 3 on what is ahead, and of promises 29 to 37, sentence by sentence. */
public final class EdgesAheadTest {
    private static final Check c = new Check("EdgesAheadTest");
    private static final int LEAST = Integer.MIN_VALUE;
    private static final int MOST = Integer.MAX_VALUE;
    /** One PRICK in each eighth TURN, five of them in vain: the last of the sixth SECRET in TURN 993, read by the eighth CELL in TURN 1000. */
    private static final String FAR = "cell a pricks 1;" + Texts.cells(8, " pricks 0").substring(16) + Texts.secrets(6, 20)
        + "page pa room 5;page pb room 60;page pc room 60;" + Texts.knows('a', 6);
    private static final String CHAIN = "cell a pricks 2;cell b pricks 3;cell d pricks 20;secret s letters 5;secret t letters 3;page p room 8;knows a s;knows d t;";

    public static void main(String[] args) {
        beyond();
        now();
        farthest();
        nothingHappens();
        when();
        heard();
        heardByThese();
        all();
        later();
        roomIn();
        never();
        firstHeard();
        firstHeardFar();
        bestMany();
        bestIll();
        bestFromNow();
        bestOfSeveral();
        bestOfAll();
        bestIn99();
        bestStatus();
        bestAt();
        c.end();
    }

    private static void beyond() {
        c.says("Terms 3", "(What is ahead is looked for beyond TURN 9,999, too.)");
        MarginPlan x = Check.with("cell a pricks 1;cell b pricks 0;secret s letters 20;page p room 20;");
        for (int i = 0; i < 101; i++) {
            x.turn(99);
        }
        x.tell(0, 0);
        c.refused(x, "no TURN is left", x.turn(1), 7);
        c.fine(x, "b has the book", x.next(), 1);
        c.fine(x, "when", x.when(1, 0), 41);
        c.fine(x, "heard", x.heard(0), 41);
        c.fine(x, "all", x.all(), 41);
        c.fine(x, "later", x.later(1, 41), 1);
        c.fine(x, "later, one less", x.later(1, 40), 0);
        c.fine(x, "roomIn", x.roomIn(0, 40), 0);
        c.fine(x, "roomIn, one less", x.roomIn(0, 39), 1);
        c.fine(x, "never", x.never(), 0);
        c.fine(x, "firstHeard", x.firstHeard(), 0);
        c.fine(x, "bestOrder", x.bestOrder(), 40);
        c.fine(x, "as it was", x.many(4), 9999);
    }

    private static void now() {
        c.says("Terms 3", "WHEN a CELL KNOWS a SECRET: behind how many TURNS from now on (0: now;");
        MarginPlan x = Check.with("cell a pricks 9;cell b;secret s letters 3;secret t letters 3;page p room 9;knows a s;knows a t;knows b t;");
        c.fine(x, "when", x.when(0, 0), 0);
        c.fine(x, "heard", x.heard(1), 0);
        c.fine(x, "later", x.later(0, 0), 3);
        c.fine(x, "roomIn", x.roomIn(0, 0), 9);
        c.fine(x, "firstHeard", x.firstHeard(), 1);
        x.tell(1, 0);
        c.fine(x, "all", x.all(), 0);
        c.fine(x, "bestOrder", x.bestOrder(), 0);
        c.fine(x, "one TURN from now on", x.roomIn(0, 1), 3);
    }

    private static void farthest() {
        c.says("Terms 3", "999 at most)");
        far("when", x -> x.when(7, 5), 1000);
        far("when, by the seventh", x -> x.when(6, 5), 999);
        far("when, by the second", x -> x.when(1, 5), 994);
        far("heard", x -> x.heard(5), 1000);
        far("all", x -> x.all(), 1000);
    }

    /** A call that is due to tell these TURNS at first, and one less behind each TURN. */
    private static void far(String call, ToIntFunction<MarginPlan> ask, int turns) {
        MarginPlan x = Check.with(FAR);
        for (int ahead = turns; ahead > turns - 20; ahead--) {
            if (ahead > 999) {
                c.refused(x, call + " in " + ahead, ask.applyAsInt(x), 8);
            } else {
                c.fine(x, call + " in " + ahead, ask.applyAsInt(x), ahead);
            }
            x.turn(1);
        }
    }

    private static void nothingHappens() {
        c.says("Terms 3", "if nothing else happens");
        Twins twins = new Twins(c, x -> {
            Check.book(x, CHAIN);
            Check.rounds(x, "turn 2;stop;");
            x.turn(1);
            x.mark();
        });
        // Asking changes nothing: a refused call behind it shows whether it did.
        twins.refuses("behind all that is asked", x -> {
            x.when(1, 0);
            x.heard(0);
            x.all();
            x.later(2, 500);
            x.roomIn(0, 500);
            x.never();
            x.firstHeard();
            return x.when(9, 9);
        }, 2);
        MarginPlan x = Check.with(CHAIN);
        c.fine(x, "bestOrder", x.bestOrder(), 9);
        c.fine(x, "the ORDER is as it was", x.orderAt(0) * 100 + x.orderAt(1) * 10 + x.orderAt(2), 12);
        c.fine(x, "so is the book", x.next(), 0);
        c.fine(x, "no PRICKS", x.many(6), 0);
        x.ill(1, true);
        c.refused(x, "who is ILL stays so", x.when(1, 0), 8);
        x.ill(1, false);
        x.damp(0, true);
        c.refused(x, "what is SHUT stays so", x.when(1, 0), 8);
    }

    private static void when() {
        c.says("Promise 29", "WHEN: TURNS (2; 8: not in 999).");
        MarginPlan x = Check.with(CHAIN + "cell e;cell f blind;order a b d f;");
        for (int cell : new int[] {-1, 5, LEAST, MOST}) {
            c.refused(x, "when(" + cell + ", 0)", x.when(cell, 0), 2);
        }
        for (int secret : new int[] {-1, 2, 6, LEAST, MOST}) {
            c.refused(x, "when(0, " + secret + ")", x.when(0, secret), 2);
        }
        c.refused(x, "one that is not in the ORDER", x.when(3, 0), 8);
        c.refused(x, "a BLIND one", x.when(4, 0), 8);
        x.tell(3, 0);
        x.tell(4, 0);
        c.fine(x, "that KNOWS it", x.when(3, 0), 0);
        c.fine(x, "that KNOWS it", x.when(4, 0), 0);
    }

    private static void heard() {
        c.says("Promise 30", "HEARD: TURNS (2; 8: not in 999).");
        MarginPlan x = Check.with(CHAIN);
        for (int secret : new int[] {-1, 2, 6, LEAST, MOST}) {
            c.refused(x, "heard(" + secret + ")", x.heard(secret), 2);
        }
        c.fine(x, "s", x.heard(0), 9);
        c.fine(x, "t", x.heard(1), 5);
        c.fine(x, "as the latest WHEN", Math.max(x.when(0, 1), Math.max(x.when(1, 1), x.when(2, 1))), 5);
    }

    private static void heardByThese() {
        c.says("Terms 3", "ALL: when each CELL that is not BLIND knows all SECRETS; HEARD: when all of these know one SECRET.");
        MarginPlan x = Check.with("cell a pricks 9;cell b;cell d blind;secret s letters 3;secret t letters 3;page p room 9;knows a s;knows b t;");
        c.fine(x, "a BLIND one does not count", x.heard(0), 2);
        c.fine(x, "nor for ALL", x.all(), 4);
        MarginPlan out = Check.with("cell a pricks 9;cell b;cell d;secret s letters 3;page p room 9;knows a s;order a b;");
        c.refused(out, "one that is not in the ORDER does", out.heard(0), 8);
        c.refused(out, "for ALL, too", out.all(), 8);
        out.tell(2, 0);
        c.fine(out, "it KNOWS it", out.heard(0), 2);
        MarginPlan blind = Check.with("cell a blind;secret s letters 3;");
        c.fine(blind, "all are BLIND: HEARD", blind.heard(0), 0);
        c.fine(blind, "ALL", blind.all(), 0);
        c.fine(blind, "none is NEVER", blind.never(), 0);
        MarginPlan nobody = Check.with("secret s letters 3;");
        c.fine(nobody, "no CELL: HEARD", nobody.heard(0), 0);
        c.fine(nobody, "ALL", nobody.all(), 0);
        MarginPlan nothing = Check.with("cell a;");
        c.fine(nothing, "no SECRET: ALL", nothing.all(), 0);
    }

    private static void all() {
        c.says("Promise 31", "ALL: TURNS (8: not in 999).");
        MarginPlan x = Check.with(CHAIN);
        c.fine(x, "in", x.all(), 9);
        x.turn(9);
        c.fine(x, "now", x.all(), 0);
        Check.book(x, "cell a;secret s letters 2;page p room 9;");
        c.refused(x, "nobody KNOWS it", x.all(), 8);
    }

    private static void later() {
        c.says("Promise 32", "What a CELL KNOWS in so many TURNS (0 to 999): a set (2; 5).");
        MarginPlan x = Check.with(FAR);
        for (int cell : new int[] {-1, 8, LEAST, MOST}) {
            c.refused(x, "later(" + cell + ", 0)", x.later(cell, 0), 2);
            c.refused(x, "2 ahead of 5", x.later(cell, 1000), 2);
        }
        for (int turns : new int[] {-1, 1000, LEAST, MOST}) {
            c.refused(x, "later(7, " + turns + ")", x.later(7, turns), 5);
        }
        c.fine(x, "in none", x.later(7, 0), 0);
        c.fine(x, "in 999", x.later(7, 999), 31);
        c.fine(x, "the seventh CELL in 999", x.later(6, 999), 63);
        c.fine(x, "the seventh CELL in 998", x.later(6, 998), 31);
        x.turn(1);
        c.fine(x, "in 998", x.later(7, 998), 31);
        c.fine(x, "in 999", x.later(7, 999), 63);
    }

    private static void roomIn() {
        c.says("Promise 33", "FREE of a PAGE in so many TURNS (0 to 999) (2; 5).");
        MarginPlan x = Check.with(FAR);
        for (int page : new int[] {-1, 3, LEAST, MOST}) {
            c.refused(x, "roomIn(" + page + ", 0)", x.roomIn(page, 0), 2);
            c.refused(x, "2 ahead of 5", x.roomIn(page, 1000), 2);
        }
        for (int turns : new int[] {-1, 1000, LEAST, MOST}) {
            c.refused(x, "roomIn(2, " + turns + ")", x.roomIn(2, turns), 5);
        }
        c.fine(x, "in none", x.roomIn(0, 0), 5);
        c.fine(x, "in one", x.roomIn(0, 1), 4);
        c.fine(x, "in 992", x.roomIn(2, 992), 1);
        c.fine(x, "in 993", x.roomIn(2, 993), 0);
        c.fine(x, "in 999", x.roomIn(2, 999), 0);
        MarginPlan shut = Check.with(FAR);
        shut.damp(0, true);
        c.fine(shut, "of a SHUT one", shut.roomIn(0, 999), 5);
        MarginPlan last = Check.with(Texts.cells(8, " pricks 1") + "secret s letters 1;page p room 1;knows h s;order h;");
        c.fine(last, "as it is", last.roomIn(0, 0), 1);
        c.fine(last, "in one", last.roomIn(0, 1), 0);
    }

    private static void never() {
        c.says("Promise 34", "NEVER: a set (1 for SECRET 0 ..).");
        MarginPlan x = Check.with(FAR);
        c.fine(x, "the sixth in 1000", x.never(), 32);
        x.turn(1);
        c.fine(x, "the sixth in 999", x.never(), 0);
        for (int cell = 1; cell < 8; cell++) {
            x.ill(cell, true);
        }
        c.fine(x, "none is HEARD", x.never(), 63);
        for (int cell = 1; cell < 8; cell++) {
            x.tell(cell, 0);
        }
        c.fine(x, "the first is", x.never(), 62);
        MarginPlan none = new MarginPlan();
        c.fine(none, "there is no SECRET", none.never(), 0);
        c.says("Terms 3", "NEVER: the SECRETS that are not HEARD in 999 TURNS.");
        MarginPlan blind = Check.with("cell a;cell b blind;secret s letters 2;knows a s;");
        c.fine(blind, "only by the BLIND it is not KNOWN", blind.never(), 0);
    }

    private static void firstHeard() {
        c.says("Promise 35", "The SECRET that is HEARD the soonest, of several the first (8: none).");
        MarginPlan x = Check.with(CHAIN);
        c.fine(x, "the second", x.firstHeard(), 1);
        MarginPlan alike = Check.with("cell a pricks 9;cell b;secret s letters 20;secret t letters 3;secret u letters 3;page p room 9;page q room 20;"
            + "knows a t;knows a u;");
        c.fine(alike, "of two in TURN 2 the first", alike.firstHeard(), 1);
        for (int secret = 2; secret >= 0; secret--) {
            for (int cell = 0; cell < 2; cell++) {
                alike.tell(cell, secret);
            }
            c.fine(alike, "of those now the first", alike.firstHeard(), secret);
        }
        MarginPlan none = Check.with("cell a;secret s letters 3;");
        c.refused(none, "none is HEARD", none.firstHeard(), 8);
        MarginPlan nothing = Check.with("cell a;");
        c.refused(nothing, "there is none", nothing.firstHeard(), 8);
        nothing = new MarginPlan();
        c.refused(nothing, "there is no SECRET and no CELL", nothing.firstHeard(), 8);
    }

    private static void firstHeardFar() {
        c.says("Promise 35", "(8: none)");
        // The eighth CELL is not in the ORDER and KNOWS the sixth SECRET alone, so that no other is ever HEARD; 143 PRICKS, by one in seven TURNS.
        MarginPlan x = Check.with("cell a pricks 1;" + Texts.cells(8, " pricks 0").substring(16) + Texts.secrets(6, 20)
            + "page pa room 19;page pb room 4;page pc room 60;page pd room 60;" + Texts.knows('a', 6) + "knows h sf;order a b c d e f g;");
        c.refused(x, "in 1001", x.firstHeard(), 8);
        x.turn(1);
        c.refused(x, "in 1000", x.firstHeard(), 8);
        c.refused(x, "in 1000", x.heard(5), 8);
        x.turn(1);
        c.fine(x, "in 999", x.firstHeard(), 5);
        c.fine(x, "in 999", x.heard(5), 999);
        c.fine(x, "all others never", x.never(), 31);
    }

    private static void bestMany() {
        c.says("Terms 3", "BEST ORDER of all CELLS of the ORDER (at most 6 of them, ILL ones, too)");
        String eight = Texts.cells(8, " pricks 2") + "secret s letters 2;page p room 2;knows f s;knows g s;knows h s;";
        MarginPlan six = Check.with(eight + "order f a b c d e;");
        c.fine(six, "six", six.bestOrder(), 6);
        int[] best = {5, 0, 1, 2, 3, 4};
        for (int k = 0; k < 6; k++) {
            c.fine(six, "bestAt(" + k + ")", six.bestAt(k), best[k]);
        }
        c.refused(six, "no more", six.bestAt(6), 8);
        MarginPlan seven = Check.with(eight + "order a b c d e f g;");
        c.refused(seven, "seven", seven.bestOrder(), 9);
        MarginPlan all = Check.with(eight);
        c.refused(all, "eight", all.bestOrder(), 9);
        MarginPlan one = Check.with("cell a;secret s letters 2;knows a s;");
        c.fine(one, "one", one.bestOrder(), 0);
        c.fine(one, "it", one.bestAt(0), 0);
        MarginPlan none = new MarginPlan();
        c.fine(none, "none", none.bestOrder(), 0);
        c.refused(none, "no CELL", none.bestAt(0), 8);
    }

    private static void bestIll() {
        c.says("Terms 3", "ILL ones, too)");
        MarginPlan x = Check.with("cell a pricks 3;cell b;cell d;secret s letters 3;page p room 3;knows a s;knows d s;order a b d;");
        x.ill(2, true);
        c.fine(x, "two TURNS", x.bestOrder(), 2);
        c.fine(x, "the ILL one is in it", x.bestAt(0) * 100 + x.bestAt(1) * 10 + x.bestAt(2), 12);
        x.ill(0, true);
        x.ill(2, false);
        c.fine(x, "two TURNS", x.bestOrder(), 2);
        // d, then b; a is passed over wherever it is, and so it is the first by CELLS.
        c.due("best", x.bestAt(0) * 100 + x.bestAt(1) * 10 + x.bestAt(2), 21);
    }

    private static void bestFromNow() {
        c.says("Terms 3", "that by which, from now on, the first of it first, ALL is the soonest");
        MarginPlan x = Check.with("cell a;cell b pricks 3;cell d;secret s letters 3;page p room 3;knows b s;order d a b;");
        c.fine(x, "by b, a, d", x.bestOrder(), 3);
        c.fine(x, "b first", x.bestAt(0), 1);
        x.turn(1);
        c.fine(x, "the book's place does not matter", x.bestOrder(), 3);
        x.turn(1);
        c.fine(x, "nor here", x.bestOrder(), 3);
        c.fine(x, "b first", x.bestAt(0), 1);
        x.turn(1);
        c.fine(x, "b has pricked: two are left", x.bestOrder(), 2);
        c.due("the first by CELLS", x.bestAt(0) * 100 + x.bestAt(1) * 10 + x.bestAt(2), 21);
    }

    private static void bestOfSeveral() {
        c.says("Terms 3", "of several the first by CELLS");
        MarginPlan x = Check.with("cell a;cell b;cell d;cell e;secret s letters 3;knows a s;knows b s;knows d s;knows e s;order e d b;");
        c.fine(x, "now", x.bestOrder(), 0);
        c.fine(x, "as they are numbered", x.bestAt(0) * 100 + x.bestAt(1) * 10 + x.bestAt(2), 123);
        MarginPlan y = Check.with("cell a;cell b;cell d pricks 2;cell e;secret s letters 2;page p room 2;knows d s;");
        c.fine(y, "in 4", y.bestOrder(), 4);
        c.fine(y, "the readers as they are numbered", y.bestAt(0) * 1000 + y.bestAt(1) * 100 + y.bestAt(2) * 10 + y.bestAt(3), 2013);
    }

    /** Each of the 720 ORDERS of six CELLS is the best one for some BOOK, the first and the last too. */
    private static void bestOfAll() {
        c.says("Terms 3", "that by which, from now on, the first of it first, ALL is the soonest");
        int[] order = new int[6];
        int[] seen = {0};
        tryOrders(order, 0, 0, seen);
        c.due("ORDERS", seen[0], 720);
    }

    private static void tryOrders(int[] order, int many, int used, int[] seen) {
        if (many == 6) {
            seen[0]++;
            bestIs(order);
            return;
        }
        for (int cell = 0; cell < 6; cell++) {
            if ((used >> cell & 1) == 0) {
                order[many] = cell;
                tryOrders(order, many + 1, used | 1 << cell, seen);
            }
        }
    }

    /** The k-th of this ORDER KNOWS the SECRETS from the k-th on and makes one PRICK: by this ORDER alone each reads all it lacks in its first TURN. */
    private static void bestIs(int[] order) {
        StringBuilder text = new StringBuilder(Texts.cells(6, " pricks 1"));
        for (int k = 0; k < 6; k++) {
            text.append("secret s").append((char) ('a' + k)).append(" letters 1;");
        }
        text.append("page pa room 6;");
        for (int k = 0; k < 6; k++) {
            for (int s = k; s < 6; s++) {
                text.append("knows ").append((char) ('a' + order[k])).append(" s").append((char) ('a' + s)).append(';');
            }
        }
        MarginPlan x = Check.with(text.toString());
        StringBuilder due = new StringBuilder();
        StringBuilder got = new StringBuilder();
        c.fine(x, "bestOrder", x.bestOrder(), 6);
        for (int k = 0; k < 6; k++) {
            due.append(order[k]);
            got.append(x.bestAt(k));
        }
        c.due("best of " + due, got.toString(), due.toString());
    }

    private static void bestIn99() {
        c.says("Promise 36", "BEST ORDER: TURNS till ALL (8: by no ORDER in 99 TURNS;");
        // a makes one PRICK in each second TURN: the last of n in TURN 2 n - 1, b reads it in TURN 2 n.
        String two = "cell a pricks 1;cell b;secret s letters 20;secret t letters 20;secret u letters 9;page p room 60;knows a s;knows a t;knows a u;";
        MarginPlan x = Check.with(two);
        c.fine(x, "in 98", x.bestOrder(), 98);
        x = Check.with(two.replace("letters 9", "letters 10"));
        c.refused(x, "in 100", x.bestOrder(), 8);
        c.refused(x, "nothing is told", x.bestAt(0), 8);
        String three = "cell a pricks 1;cell b;cell d;secret s letters 20;secret t letters 13;page p room 60;knows a s;knows a t;";
        x = Check.with(three);
        c.fine(x, "in 99", x.bestOrder(), 99);
        x = Check.with(three.replace("letters 13", "letters 14"));
        c.refused(x, "in 102", x.bestOrder(), 8);
        c.fine(x, "by the ORDER that is", x.all(), 102);
    }

    private static void bestStatus() {
        c.says("Promise 36", "9: the ORDER has more than 6 CELLS; 9 ahead of 8");
        MarginPlan x = Check.with(Texts.cells(7, "") + "secret s letters 2;");
        c.refused(x, "seven, and never", x.bestOrder(), 9);
        MarginPlan y = Check.with(Texts.cells(6, "") + "secret s letters 2;");
        c.refused(y, "six, and never", y.bestOrder(), 8);
        MarginPlan known = Check.with(Texts.cells(7, ""));
        c.refused(known, "seven, ALL is now", known.bestOrder(), 9);
    }

    private static void bestAt() {
        c.says("Promise 37", "The k-th CELL of that, by bestOrder() latest with STATUS 0, whatever came since (8: no such).");
        MarginPlan x = Check.with("cell a;cell b pricks 3;cell d;secret s letters 3;page p room 3;knows b s;");
        c.refused(x, "ahead of any", x.bestAt(0), 8);
        x.mark();
        x.bestOrder();
        for (int k : new int[] {-1, 3, 6, LEAST, MOST}) {
            c.refused(x, "bestAt(" + k + ")", x.bestAt(k), 8);
        }
        c.fine(x, "the first", x.bestAt(0), 1);
        c.fine(x, "the last", x.bestAt(2), 2);
        x.turn(5);
        x.move(0, 1);
        x.ill(0, true);
        x.back();
        x.damp(0, true);
        c.refused(x, "STATUS 8 leaves it", x.bestOrder(), 8);
        Check.book(x, Texts.cells(7, ""));
        c.refused(x, "STATUS 9 leaves it", x.bestOrder(), 9);
        c.fine(x, "the first", x.bestAt(0), 1);
        c.fine(x, "the second", x.bestAt(1), 0);
        c.fine(x, "the last", x.bestAt(2), 2);
        Check.book(x, "cell a;");
        x.bestOrder();
        c.fine(x, "the latest", x.bestAt(0), 0);
        c.refused(x, "of one alone", x.bestAt(1), 8);
    }
}
