/** Promises 52 and 53: MARKS. */
public final class MarksTest {
    private static final Check c = new Check("MarksTest");

    public static void main(String[] args) {
        statuses();
        takenBack();
        bookAndRounds();
        whatStays();
        c.end();
    }

    private static void statuses() {
        MarginPlan x = new MarginPlan();
        c.refused(x, "no mark", x.back(), 8);
        for (int i = 1; i <= 3; i++) {
            c.fine(x, "mark", x.mark(), i);
        }
        c.refused(x, "a fourth", x.mark(), 7);
        for (int i = 2; i >= 0; i--) {
            c.fine(x, "back", x.back(), i);
        }
        c.refused(x, "no mark", x.back(), 8);
        c.fine(x, "mark", x.mark(), 1);
    }

    private static void takenBack() {
        MarginPlan x = Check.with("cell a pricks 2; cell b; secret s letters 5; secret t letters 5; page p room 9; page q room 9; knows a s; read p odds 3;");
        x.turn(3);
        x.mark();
        x.turn(4);
        x.tell(1, 1);
        x.ill(0, true);
        x.mark();
        x.damp(0, true);
        x.move(0, 1);
        x.watch(0, 9);
        x.turn(5);
        x.rub(0);
        c.fine(x, "back", x.back(), 1);
        c.fine(x, "turns", x.many(4), 7);
        c.fine(x, "made", x.many(6), 5);
        c.fine(x, "made by a", x.cell(0, 5), 5);
        c.fine(x, "on p", x.pricks(0, 0), 5);
        c.fine(x, "stands", x.page(0, 3), 1);
        c.fine(x, "free", x.page(0, 2), 4);
        c.fine(x, "shut", x.many(8), 0);
        c.fine(x, "ill", x.many(7), 1);
        c.fine(x, "order", x.orderAt(0), 0);
        c.fine(x, "sixteenths", x.page(0, 1), 3);
        c.fine(x, "b knows", x.cell(1, 3), 3);
        c.fine(x, "next", x.next(), 1);
        c.fine(x, "back", x.back(), 0);
        c.fine(x, "turns", x.many(4), 3);
        c.fine(x, "made", x.many(6), 4);
        c.fine(x, "b knows", x.cell(1, 3), 0);
        c.fine(x, "ill", x.many(7), 0);
        c.fine(x, "next", x.next(), 1);
        x.turn(4);
        c.fine(x, "it goes on as it did", x.many(6), 5);
    }

    private static void bookAndRounds() {
        MarginPlan x = Check.with("cell a; secret s letters 3; page p room 9; knows a s;");
        Check.rounds(x, "turn 2;");
        x.turn(1);
        x.mark();
        Check.book(x, "cell b blind; cell c; cell d; page q room 3;");
        c.refused(x, "no rounds", x.live(0), 8);
        x.mark();
        Check.rounds(x, "ill b; damp q;");
        x.live(0);
        x.back();
        c.refused(x, "no rounds", x.live(0), 8);
        c.fine(x, "cells", x.many(0), 3);
        c.fine(x, "ill", x.many(7), 0);
        c.fine(x, "back", x.back(), 0);
        c.fine(x, "cells", x.many(0), 1);
        c.fine(x, "secrets", x.many(1), 1);
        c.fine(x, "pages", x.many(2), 1);
        c.fine(x, "not blind", x.cell(0, 1), 0);
        c.fine(x, "letters", x.secret(0), 3);
        c.fine(x, "room", x.page(0, 0), 9);
        c.fine(x, "turns", x.many(4), 1);
        c.fine(x, "the rounds are there", x.live(0), 1);
        c.fine(x, "turns", x.many(4), 3);
        c.fine(x, "the names, too", Check.rounds(x, "when knows a s; rub p; end;"), 2);
        c.roundsFault(x, "ill b;", 3, 4);
    }

    private static void whatStays() {
        MarginPlan x = Check.with("cell a; cell b; secret s letters 3; page p room 9; knows a s; read p odds 4;");
        x.mark();
        x.tray(0, 0, 1);
        x.write(0, 0, 5);
        Check.feed(x, "stop;");
        x.turn(1);
        x.caught();
        x.bestOrder();
        c.fine(x, "back", x.back(), 0);
        c.fine(x, "the tray stays", x.read(0, 0), 5);
        c.due("the fraction stays", x.bottom(), 4);
        c.fine(x, "the best order stays", x.bestAt(0), 1);
        c.fine(x, "the tape stays", x.rounds(5), 1);
    }
}
