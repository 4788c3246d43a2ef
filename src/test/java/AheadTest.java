/** Promises 29 to 37: who KNOWS what, and in what ORDER. */
public final class AheadTest {
    private static final Check c = new Check("AheadTest");
    private static final String CHAIN = "cell a pricks 2; cell b pricks 3; cell d pricks 20; secret s letters 5; secret t letters 3;"
        + "page p room 8; knows a s; knows d t;";

    public static void main(String[] args) {
        when();
        heard();
        all();
        later();
        roomIn();
        never();
        firstHeard();
        bestOrder();
        bestStays();
        farAhead();
        c.end();
    }

    private static void when() {
        MarginPlan x = Check.with(CHAIN);
        c.refused(x, "when(-1, 0)", x.when(-1, 0), 2);
        c.refused(x, "when(3, 0)", x.when(3, 0), 2);
        c.refused(x, "when(0, 2)", x.when(0, 2), 2);
        c.refused(x, "when(0, -1)", x.when(0, -1), 2);
        c.fine(x, "now", x.when(0, 0), 0);
        // a makes 2, b nothing, d all of t; a makes 2 (and learns t); b knows t; d; a the last of s; b learns s.
        c.fine(x, "a, t", x.when(0, 1), 4);
        c.fine(x, "b, t", x.when(1, 1), 5);
        c.fine(x, "b, s", x.when(1, 0), 8);
        c.fine(x, "d, s", x.when(2, 0), 9);
        c.fine(x, "nothing happened", x.many(4), 0);
        c.fine(x, "nothing happened", x.many(5), 0);
        x.turn(8);
        c.fine(x, "b, s", x.when(1, 0), 0);
        c.fine(x, "d, s", x.when(2, 0), 1);
        x.ill(2, true);
        c.refused(x, "the ill learn nothing", x.when(2, 0), 8);
        x.ill(2, false);
        x.damp(0, true);
        c.refused(x, "shut", x.when(2, 0), 8);
    }

    private static void heard() {
        MarginPlan x = Check.with(CHAIN);
        c.refused(x, "heard(-1)", x.heard(-1), 2);
        c.refused(x, "heard(2)", x.heard(2), 2);
        c.fine(x, "s", x.heard(0), 9);
        c.fine(x, "t", x.heard(1), 5);
        x.ill(1, true);
        c.refused(x, "not by b", x.heard(1), 8);
        MarginPlan blind = Check.with("cell a blind; cell b; secret s letters 5; knows b s;");
        c.fine(blind, "the blind do not count", blind.heard(0), 0);
        MarginPlan none = Check.with("cell a blind; secret s letters 5;");
        c.fine(none, "nobody sees", none.heard(0), 0);
        MarginPlan out = Check.with(CHAIN + "cell e; order a b d;");
        c.refused(out, "one is not in the order", out.heard(0), 8);
    }

    private static void all() {
        MarginPlan x = Check.with(CHAIN);
        c.fine(x, "all", x.all(), 9);
        x.turn(3);
        c.fine(x, "all", x.all(), 6);
        x.tell(1, 0);
        c.fine(x, "all", x.all(), 3);
        x.ill(2, true);
        c.refused(x, "not by d", x.all(), 8);
        MarginPlan none = Check.with("cell a;");
        c.fine(none, "no secrets", none.all(), 0);
        MarginPlan blind = Check.with("cell a blind; secret s letters 3;");
        c.fine(blind, "nobody sees", blind.all(), 0);
    }

    private static void later() {
        MarginPlan x = Check.with(CHAIN);
        c.refused(x, "later(3, 1)", x.later(3, 1), 2);
        c.refused(x, "2 ahead of 5", x.later(-1, 1000), 2);
        c.refused(x, "1000 turns", x.later(0, 1000), 5);
        c.refused(x, "-1 turns", x.later(0, -1), 5);
        c.fine(x, "now", x.later(0, 0), 1);
        c.fine(x, "in 3", x.later(0, 3), 1);
        c.fine(x, "in 4", x.later(0, 4), 3);
        c.fine(x, "in 4", x.later(1, 4), 0);
        c.fine(x, "in 5", x.later(1, 5), 2);
        c.fine(x, "in 999", x.later(1, 999), 3);
        c.fine(x, "nothing happened", x.many(4), 0);
    }

    private static void roomIn() {
        MarginPlan x = Check.with(CHAIN);
        c.refused(x, "roomIn(1, 1)", x.roomIn(1, 1), 2);
        c.refused(x, "2 ahead of 5", x.roomIn(-1, -1), 2);
        c.refused(x, "1000 turns", x.roomIn(0, 1000), 5);
        c.refused(x, "-1 turns", x.roomIn(0, -1), 5);
        c.fine(x, "now", x.roomIn(0, 0), 8);
        c.fine(x, "in 1", x.roomIn(0, 1), 6);
        c.fine(x, "in 2", x.roomIn(0, 2), 6);
        c.fine(x, "in 3", x.roomIn(0, 3), 3);
        c.fine(x, "in 999", x.roomIn(0, 999), 0);
        c.fine(x, "nothing happened", x.page(0, 2), 8);
    }

    private static void never() {
        MarginPlan x = Check.with(CHAIN);
        c.fine(x, "none", x.never(), 0);
        x.ill(0, true);
        c.fine(x, "a knows t never, s is not told", x.never(), 3);
        x.tell(0, 1);
        c.fine(x, "s alone", x.never(), 1);
        x.tell(1, 0);
        x.tell(2, 0);
        c.fine(x, "t goes on from d to b", x.never(), 0);
        MarginPlan tight = Check.with("cell a; cell b; secret s letters 5; secret t letters 5; page p room 5; knows a s; knows a t;");
        c.fine(tight, "no room for t", tight.never(), 2);
        MarginPlan none = Check.with("cell a;");
        c.fine(none, "no secrets", none.never(), 0);
    }

    private static void firstHeard() {
        MarginPlan x = Check.with(CHAIN);
        c.fine(x, "t", x.firstHeard(), 1);
        x.turn(3);
        x.tell(1, 0);
        x.tell(2, 0);
        c.fine(x, "s by now", x.firstHeard(), 0);
        x.tell(0, 1);
        x.tell(1, 1);
        c.fine(x, "of several the first", x.firstHeard(), 0);
        MarginPlan none = Check.with("cell a;");
        c.refused(none, "no secrets", none.firstHeard(), 8);
        MarginPlan never = Check.with("cell a; secret s letters 3;");
        c.refused(never, "never", never.firstHeard(), 8);
        StringBuilder text = new StringBuilder("cell a pricks 1;");
        for (char name = 'b'; name < 'i'; name++) {
            text.append("cell ").append(name).append(" pricks 0;");
        }
        // Five pages are too small by one: 95 pricks in vain, the last of 115 in turn 913, h reads in 920.
        String pages = "page p room 19; page q room 19; page r room 19; page t room 19; page u room 19; page v room 60;";
        MarginPlan far = Check.with(text + "secret s letters 20;" + pages + "knows a s;");
        c.fine(far, "far ahead", far.heard(0), 920);
        c.fine(far, "far ahead", far.firstHeard(), 0);
    }

    private static void bestOrder() {
        MarginPlan x = Check.with(CHAIN);
        x.turn(2);
        x.rub(0);
        // a makes s in its turns 1, 4 and 7, if it is the first; the others read it in 8 and 9.
        c.fine(x, "turns", x.bestOrder(), 9);
        c.fine(x, "the first by cells", x.bestAt(0) * 100 + x.bestAt(1) * 10 + x.bestAt(2), 12);
        c.refused(x, "bestAt(3)", x.bestAt(3), 8);
        c.refused(x, "bestAt(-1)", x.bestAt(-1), 8);
        c.fine(x, "the order stays", x.orderAt(0), 0);
        c.fine(x, "the book stays", x.next(), 2);
        MarginPlan known = Check.with("cell a; cell b; cell d; secret s letters 3; knows a s; knows b s; knows d s; order d a b;");
        c.fine(known, "now", known.bestOrder(), 0);
        c.fine(known, "the first by cells", known.bestAt(0) * 100 + known.bestAt(1) * 10 + known.bestAt(2), 12);
        MarginPlan seven = Check.with("cell a; cell b; cell d; cell e; cell f; cell g; cell h; secret s letters 3;");
        c.refused(seven, "9 ahead of 8", seven.bestOrder(), 9);
        MarginPlan never = Check.with("cell a; cell b; secret s letters 3;");
        c.refused(never, "never", never.bestOrder(), 8);
        MarginPlan six = Check.with("cell a; cell b; cell d; cell e; cell f; cell g pricks 3; cell h blind; secret s letters 3;"
            + "page p room 3; knows g s; order a b d e f g;");
        c.fine(six, "six in order", six.bestOrder(), 6);
        c.fine(six, "g first", six.bestAt(0), 5);
        c.fine(six, "then a", six.bestAt(1), 0);
        c.fine(six, "f last", six.bestAt(5), 4);
        six.ill(0, true);
        c.refused(six, "a is ill", six.bestOrder(), 8);
        six.tell(0, 0);
        c.fine(six, "the ill are in the order, too", six.bestOrder(), 5);
        c.fine(six, "a first by cells", six.bestAt(0), 0);
        c.fine(six, "g second", six.bestAt(1), 5);
        MarginPlan slow = Check.with("cell a pricks 1; cell b; secret s letters 20; secret t letters 20; secret u letters 11; page p room 60;"
            + "knows a s; knows a t; knows a u;");
        // a makes the 51st prick in turn 101 (or 102), so that ALL is beyond 99.
        c.fine(slow, "all by 102", slow.all(), 102);
        c.refused(slow, "not in 99 turns", slow.bestOrder(), 8);
        slow.turn(3);
        // 49 lack; a first: turns 1, 3, .. 97, b in turn 98.
        c.fine(slow, "in 98", slow.bestOrder(), 98);
        MarginPlan edge = Check.with("cell a pricks 1; cell b; secret s letters 20; secret t letters 20; secret u letters 10; page p room 60;"
            + "knows a s; knows a t; knows a u;");
        c.refused(edge, "100 turns", edge.bestOrder(), 8);
        edge = Check.with("cell a pricks 1; cell b; cell d; secret s letters 20; secret t letters 13; page p room 60; knows a s; knows a t;");
        // a makes the 33rd prick in turn 97; b and d read in 98 and 99.
        c.fine(edge, "99 turns", edge.bestOrder(), 99);
    }

    private static void bestStays() {
        MarginPlan x = Check.with("cell a; cell b pricks 3; secret s letters 3; page p room 3; knows b s;");
        c.fine(x, "best", x.bestOrder(), 2);
        c.fine(x, "b first", x.bestAt(0), 1);
        x.ill(0, true);
        c.refused(x, "none", x.bestOrder(), 8);
        c.fine(x, "as it was", x.bestAt(0), 1);
        Check.book(x, "");
        c.fine(x, "as it was", x.bestAt(1), 0);
        c.fine(x, "of no cells", x.bestOrder(), 0);
        c.refused(x, "none", x.bestAt(0), 8);
    }

    private static void farAhead() {
        // One prick in each eighth turn: the secret of 20 letters six times over.
        StringBuilder text = new StringBuilder("cell a pricks 1;");
        for (char name = 'b'; name < 'i'; name++) {
            text.append("cell ").append(name).append(" pricks 0;");
        }
        for (char name = 'j'; name < 'p'; name++) {
            text.append("secret ").append(name).append(" letters 20; knows a ").append(name).append(';');
        }
        MarginPlan x = Check.with(text + "page p room 60; page q room 60;");
        c.fine(x, "the last prick in turn 953, h reads in 960", x.all(), 960);
        MarginPlan y = Check.with(text + "page p room 19; page q room 60; page r room 60;");
        // The 19 on p are made in vain, so that the last prick would be made in turn 1105.
        c.refused(y, "not in 999", y.all(), 8);
        c.fine(y, "the sixth is never heard", y.never(), 32);
        y.turn(99);
        c.refused(y, "not in 999", y.all(), 8);
        y.turn(13);
        c.refused(y, "in 1000", y.all(), 8);
        c.refused(y, "when", y.when(7, 5), 8);
        c.fine(y, "in 999 not yet", y.later(7, 999), 31);
        y.turn(1);
        c.fine(y, "just in 999", y.all(), 999);
        c.fine(y, "when", y.when(7, 5), 999);
        c.fine(y, "heard", y.heard(5), 999);
        c.fine(y, "in 999", y.later(7, 999), 63);
        c.fine(y, "never", y.never(), 0);
    }
}
