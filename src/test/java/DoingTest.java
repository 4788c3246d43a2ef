/** Promises 22 to 28: what is done. */
public final class DoingTest {
    private static final Check c = new Check("DoingTest");

    public static void main(String[] args) {
        turns();
        limits();
        pricking();
        whichPage();
        reading();
        rubbing();
        shutPages();
        passingOver();
        rub();
        damp();
        ill();
        move();
        tell();
        watch();
        c.end();
    }

    private static void turns() {
        MarginPlan x = Check.with("cell a pricks 2; cell b; secret s letters 3; page p room 9; knows a s;");
        c.refused(x, "turn(0)", x.turn(0), 5);
        c.refused(x, "turn(-1)", x.turn(-1), 5);
        c.refused(x, "turn(100)", x.turn(100), 5);
        c.fine(x, "none of these", x.many(4), 0);
        c.fine(x, "turn(1)", x.turn(1), 1);
        c.fine(x, "pricks", x.pricks(0, 0), 2);
        c.fine(x, "turn(1)", x.turn(1), 2);
        c.fine(x, "b knows nothing", x.cell(1, 3), 0);
        c.fine(x, "turn(2)", x.turn(2), 4);
        c.fine(x, "pricks", x.pricks(0, 0), 3);
        c.fine(x, "b knows", x.cell(1, 3), 1);
        c.fine(x, "turn(99)", x.turn(99), 103);
        c.fine(x, "pricks", x.many(6), 3);
        c.fine(x, "next", x.next(), 1);
    }

    private static void limits() {
        MarginPlan x = Check.with("cell a; cell b; cell d; secret s letters 3; page p room 9; knows a s;");
        for (int i = 1; i <= 101; i++) {
            c.fine(x, "turn(99)", x.turn(99), 99 * i);
        }
        c.fine(x, "9999 turns", x.many(4), 9999);
        c.refused(x, "one too many", x.turn(1), 7);
        c.refused(x, "5 ahead of 7", x.turn(100), 5);
        c.fine(x, "9999 turns", x.many(4), 9999);
        c.fine(x, "next", x.next(), 0);
        c.fine(x, "what is ahead is looked for beyond", x.later(1, 999), 1);
        x.rub(0);
        c.refused(x, "rounds on", x.turn(99), 7);
        MarginPlan y = Check.with("cell a;");
        for (int i = 0; i < 100; i++) {
            y.turn(99);
        }
        y.turn(98);
        c.refused(y, "one too many", y.turn(2), 7);
        c.fine(y, "the last", y.turn(1), 9999);
    }

    private static void pricking() {
        MarginPlan x = Check.with("cell a pricks 7; secret r letters 3; secret s letters 3; secret t letters 3;"
            + "page p room 5; page q room 9; knows a r; knows a s; knows a t;");
        x.turn(1);
        // r is done on q, which has no more of it than p: the first. s begins on what is left there.
        c.fine(x, "r on p", x.pricks(0, 0), 3);
        c.fine(x, "s on p", x.pricks(0, 1), 2);
        c.fine(x, "s on q", x.pricks(1, 1), 0);
        c.fine(x, "t on q", x.pricks(1, 2), 2);
        c.fine(x, "made", x.cell(0, 5), 7);
        x.turn(1);
        // p is full, so that s begins anew on q.
        c.fine(x, "s on p", x.pricks(0, 1), 2);
        c.fine(x, "s on q", x.pricks(1, 1), 3);
        c.fine(x, "t on q", x.pricks(1, 2), 3);
        c.fine(x, "made", x.many(6), 11);
        x.turn(5);
        c.fine(x, "all stand", x.many(6), 11);
        x = Check.with("cell a pricks 0; cell b pricks 20 blind; secret s letters 3; page p room 2; knows a s; knows b s;");
        x.turn(1);
        c.fine(x, "none by 0", x.many(5), 0);
        x.turn(1);
        c.fine(x, "the blind prick, as much as there is room", x.many(5), 2);
        c.fine(x, "it does not stand", x.page(0, 3), 0);
        c.fine(x, "free", x.page(0, 2), 0);
        x.turn(4);
        c.fine(x, "no more", x.many(5), 2);
    }

    private static void whichPage() {
        MarginPlan x = Check.with("cell a pricks 2; secret s letters 5; page p room 3; page q room 9; page r room 9; knows a s;");
        x.damp(0, true);
        x.turn(1);
        c.fine(x, "the first open one", x.pricks(1, 0), 2);
        x.damp(0, false);
        x.turn(1);
        c.fine(x, "that with the most", x.pricks(1, 0), 4);
        c.fine(x, "not the first", x.pricks(0, 0), 0);
        x.damp(1, true);
        x.turn(1);
        c.fine(x, "the first of several", x.pricks(0, 0), 2);
        x.turn(1);
        c.fine(x, "as many as are free", x.pricks(0, 0), 3);
        c.fine(x, "on one page alone", x.pricks(2, 0), 0);
        x.turn(1);
        c.fine(x, "the next one", x.pricks(2, 0), 2);
        x.damp(1, false);
        x.turn(1);
        c.fine(x, "the most again", x.pricks(1, 0), 5);
        c.fine(x, "as many as lack", x.many(5), 10);
    }

    private static void reading() {
        MarginPlan x = Check.with("cell a pricks 9; cell b pricks 1 blind; cell d pricks 1; secret s letters 3; secret t letters 4;"
            + "page p room 7; page q room 9; knows a s; knows a t;");
        x.turn(2);
        c.fine(x, "the blind learn nothing", x.cell(1, 3), 0);
        x.turn(1);
        c.fine(x, "the others all", x.cell(2, 3), 3);
        c.fine(x, "what stands is not pricked", x.many(6), 7);
        x.damp(0, true);
        x.turn(3);
        c.fine(x, "it stands on no open page", x.pricks(1, 0), 3);
        c.fine(x, "it stands on no open page", x.pricks(1, 1), 4);
        c.fine(x, "twice", x.many(5), 14);
    }

    private static void rubbing() {
        MarginPlan x = Check.with("cell a pricks 20; cell b pricks 1 rubs; secret r letters 2; secret s letters 3;"
            + "page p room 9; page q room 9; knows a r; knows a s;");
        x.turn(2);
        c.fine(x, "b knows both", x.cell(1, 3), 3);
        c.fine(x, "the first is rubbed out, and begun again", x.pricks(0, 0), 1);
        c.fine(x, "the second stays", x.pricks(0, 1), 3);
        c.fine(x, "it stands", x.page(0, 3), 2);
        x.turn(2);
        c.fine(x, "what it knew ahead stays", x.many(5), 5);
        // s is known ahead; r stands on q alone, and first of what is new there.
        x = Check.with("cell a pricks 20; cell b pricks 0 rubs; cell d pricks 0 blind rubs; secret r letters 2; secret s letters 3;"
            + "page p room 3; page q room 9; knows a s; knows a r; knows b s; knows d s; order a d b;");
        x.damp(1, true);
        x.damp(0, true);
        x.damp(0, false);
        x.turn(1);
        c.fine(x, "r on p", x.pricks(0, 0), 2);
        c.fine(x, "s on p", x.pricks(0, 1), 1);
        x.damp(1, false);
        x.damp(0, true);
        x.ill(1, true);
        x.ill(2, true);
        x.turn(1);
        c.fine(x, "both on q", x.page(1, 3), 3);
        x.ill(2, false);
        x.turn(1);
        c.fine(x, "the blind rub nothing", x.page(1, 3), 3);
        x.ill(1, false);
        x.turn(1);
        c.fine(x, "r goes from the open page", x.page(1, 3), 2);
        c.fine(x, "r stays on the shut page", x.page(0, 3), 1);
        c.fine(x, "b knows both", x.cell(1, 3), 3);
    }

    private static void shutPages() {
        MarginPlan x = Check.with("cell a pricks 9; cell b; secret s letters 3; page p room 9; knows a s;");
        x.damp(0, true);
        x.turn(1);
        c.fine(x, "not pricked", x.many(5), 0);
        x.damp(0, false);
        x.turn(2);
        c.fine(x, "pricked by a", x.many(5), 3);
        x.damp(0, true);
        x.turn(1);
        c.fine(x, "not read", x.cell(1, 3), 0);
        x.damp(0, false);
        x.turn(2);
        c.fine(x, "read", x.cell(1, 3), 1);
    }

    private static void passingOver() {
        MarginPlan x = Check.with("cell a; cell b; cell d; secret s letters 3; page p room 9; knows a s; order b a;");
        x.ill(0, true);
        x.ill(1, true);
        c.fine(x, "a turn with nothing", x.turn(3), 3);
        c.fine(x, "no pricks", x.many(6), 0);
        x.ill(1, false);
        c.fine(x, "the book stayed", x.next(), 1);
        x.turn(1);
        x.ill(0, false);
        c.fine(x, "behind that place", x.next(), 0);
        x.turn(1);
        c.fine(x, "pricks", x.many(6), 3);
        x.ill(1, true);
        x.turn(2);
        c.fine(x, "a again and again", x.next(), 0);
        x.ill(1, false);
        c.fine(x, "behind a", x.next(), 1);
        // Where the book stays does not depend on how many turns go by at once.
        x = Check.with("cell a; cell b; cell d; cell e;");
        x.turn(2);
        x.ill(1, true);
        x.ill(2, true);
        c.fine(x, "behind b, d is passed over", x.next(), 3);
        x.turn(98);
        c.fine(x, "behind a", x.next(), 3);
        x.ill(1, false);
        c.fine(x, "b is well", x.next(), 1);
        MarginPlan none = new MarginPlan();
        c.fine(none, "no cells", none.turn(99), 99);
    }

    private static void rub() {
        MarginPlan x = Check.with("cell a pricks 9; secret s letters 3; secret t letters 4; page p room 5; page q room 9; knows a s; knows a t;");
        c.refused(x, "rub(-1)", x.rub(-1), 2);
        c.refused(x, "rub(2)", x.rub(2), 2);
        c.refused(x, "none there", x.rub(0), 8);
        x.turn(2);
        c.fine(x, "on q", x.pricks(1, 1), 4);
        c.fine(x, "rub", x.rub(0), 5);
        c.fine(x, "all free", x.page(0, 2), 5);
        c.fine(x, "nothing stands", x.page(0, 3), 0);
        c.fine(x, "not the other", x.pricks(1, 1), 4);
        c.refused(x, "none there", x.rub(0), 8);
        x.damp(1, true);
        c.fine(x, "a shut one, too", x.rub(1), 4);
    }

    private static void damp() {
        MarginPlan x = Check.with("page p room 5; page q room 9;");
        c.refused(x, "damp(-1)", x.damp(-1, true), 2);
        c.refused(x, "damp(2)", x.damp(2, false), 2);
        c.refused(x, "it is open", x.damp(1, false), 9);
        c.fine(x, "damp", x.damp(1, true));
        c.refused(x, "it is shut", x.damp(1, true), 9);
        c.fine(x, "shut", x.many(8), 2);
        c.fine(x, "dry", x.damp(1, false));
        c.fine(x, "shut", x.many(8), 0);
    }

    private static void ill() {
        MarginPlan x = Check.with("cell a; cell b; order a;");
        c.refused(x, "ill(-1)", x.ill(-1, true), 2);
        c.refused(x, "ill(2)", x.ill(2, false), 2);
        c.refused(x, "it is well", x.ill(1, false), 9);
        c.fine(x, "ill", x.ill(1, true));
        c.refused(x, "it is ill", x.ill(1, true), 9);
        c.fine(x, "ill", x.many(7), 2);
        c.fine(x, "well", x.ill(1, false));
        c.fine(x, "ill", x.many(7), 0);
    }

    private static void move() {
        MarginPlan x = Check.with("cell a; cell b; cell d; cell e; order a b d;");
        x.turn(1);
        c.refused(x, "move(-1, 0)", x.move(-1, 0), 2);
        c.refused(x, "move(0, 4)", x.move(0, 4), 2);
        c.refused(x, "2 ahead of 9", x.move(4, 4), 2);
        c.refused(x, "itself", x.move(1, 1), 9);
        c.refused(x, "not in the order", x.move(0, 3), 9);
        c.refused(x, "not in the order", x.move(3, 0), 9);
        c.refused(x, "itself, not in the order", x.move(3, 3), 9);
        c.fine(x, "move", x.move(0, 1));
        c.fine(x, "first", x.orderAt(0), 1);
        c.fine(x, "second", x.orderAt(1), 0);
        c.fine(x, "the book's place stays", x.next(), 0);
        c.fine(x, "move", x.move(2, 1));
        c.fine(x, "order", x.orderAt(0) * 100 + x.orderAt(1) * 10 + x.orderAt(2), 201);
    }

    private static void tell() {
        MarginPlan x = Check.with("cell a blind; secret s letters 3; secret t letters 3; knows a s;");
        c.refused(x, "tell(1, 0)", x.tell(1, 0), 2);
        c.refused(x, "tell(-1, 0)", x.tell(-1, 0), 2);
        c.refused(x, "tell(0, 2)", x.tell(0, 2), 2);
        c.refused(x, "tell(0, -1)", x.tell(0, -1), 2);
        c.refused(x, "it knows it", x.tell(0, 0), 9);
        c.fine(x, "tell", x.tell(0, 1));
        c.fine(x, "knows", x.cell(0, 3), 3);
        c.refused(x, "it knows it", x.tell(0, 1), 9);
    }

    private static void watch() {
        MarginPlan x = Check.with("page p room 5; read p odds 3;");
        c.refused(x, "watch(1, 0)", x.watch(1, 0), 2);
        c.refused(x, "watch(-1, 17)", x.watch(-1, 17), 2);
        c.refused(x, "odds 17", x.watch(0, 17), 5);
        c.refused(x, "odds -1", x.watch(0, -1), 5);
        c.fine(x, "as it was", x.page(0, 1), 3);
        c.fine(x, "odds 16", x.watch(0, 16));
        c.fine(x, "odds", x.page(0, 1), 16);
        c.fine(x, "odds 0", x.watch(0, 0));
        c.fine(x, "odds", x.page(0, 1), 0);
    }
}
