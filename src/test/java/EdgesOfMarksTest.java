/** The edges of Terms 4 on MARKS, and of promises 52 and 53, sentence by sentence. */
public final class EdgesOfMarksTest {
    private static final Check c = new Check("EdgesOfMarksTest");
    private static final String BOOK = "cell a pricks 4;cell b pricks 3 rubs;cell d;secret s letters 5;secret t letters 3;page p room 9;page q room 5;"
        + "knows a s;knows a t;order a b;read p odds 8;";

    public static void main(String[] args) {
        threeAtMost();
        noneLeft();
        goneThen();
        allThatBecame();
        theBook();
        theRounds();
        theLatest();
        notTheRest();
        marksStay();
        c.end();
    }

    private static void threeAtMost() {
        c.says("Promise 52", "A MARK more: how many there are (7).");
        MarginPlan x = new MarginPlan();
        for (int many = 1; many <= 3; many++) {
            c.fine(x, "mark", x.mark(), many);
        }
        c.refused(x, "a fourth", x.mark(), 7);
        c.refused(x, "a fourth, once more", x.mark(), 7);
        c.says("Terms 4", "MARKS, at most 3");
        c.fine(x, "three are there", x.back(), 2);
        c.fine(x, "a third anew", x.mark(), 3);
        c.refused(x, "a fourth", x.mark(), 7);
    }

    private static void noneLeft() {
        c.says("Promise 53", "All is taken back to the latest MARK: how many there are left (8).");
        MarginPlan x = new MarginPlan();
        c.refused(x, "none", x.back(), 8);
        x.mark();
        x.mark();
        x.mark();
        for (int left = 2; left >= 0; left--) {
            c.fine(x, "back", x.back(), left);
        }
        c.refused(x, "none is left", x.back(), 8);
        c.fine(x, "the first anew", x.mark(), 1);
        c.fine(x, "back", x.back(), 0);
    }

    private static void goneThen() {
        c.says("Terms 4", "all is taken back to the latest MARK, which is gone then");
        MarginPlan x = Check.with(BOOK);
        x.turn(1);
        x.mark();
        x.turn(2);
        x.mark();
        x.turn(4);
        c.fine(x, "back", x.back(), 1);
        c.fine(x, "TURNS", x.many(4), 3);
        x.turn(8);
        c.fine(x, "back, to the one ahead", x.back(), 0);
        c.fine(x, "TURNS", x.many(4), 1);
        x.turn(8);
        c.refused(x, "back", x.back(), 8);
        c.fine(x, "TURNS", x.many(4), 9);
    }

    private static String all(MarginPlan x) {
        StringBuilder s = new StringBuilder();
        for (int what = 0; what < 9; what++) {
            s.append(x.many(what)).append(' ');
        }
        for (int cell = 0; cell < 3; cell++) {
            for (int what = 0; what < 6; what++) {
                s.append(x.cell(cell, what)).append(' ');
            }
        }
        for (int page = 0; page < 2; page++) {
            for (int what = 0; what < 4; what++) {
                s.append(x.page(page, what)).append(' ');
            }
            s.append(x.pricks(page, 0)).append(' ').append(x.pricks(page, 1)).append(' ');
        }
        s.append(x.secret(0)).append(' ').append(x.secret(1)).append(' ').append(x.next()).append(' ');
        s.append(x.orderAt(0)).append(' ').append(x.orderAt(1));
        return s.toString();
    }

    private static void allThatBecame() {
        c.says("Terms 4", "the BOOK with all that became of it, the ROUNDS are kept as they are");
        MarginPlan x = Check.with(BOOK);
        x.turn(2);
        x.ill(2, true);
        x.damp(1, true);
        x.watch(0, 3);
        x.tell(2, 0);
        String ahead = all(x);
        x.mark();
        x.turn(3);
        x.ill(2, false);
        x.ill(0, true);
        x.damp(1, false);
        x.damp(0, true);
        x.watch(0, 16);
        x.watch(1, 1);
        x.tell(2, 1);
        x.move(0, 1);
        x.rub(0);
        x.turn(7);
        c.due("much is other than ahead", !ahead.equals(all(x)), true);
        c.fine(x, "back", x.back(), 0);
        c.due("all", all(x), ahead);
        MarginPlan y = Check.with(BOOK);
        y.turn(2);
        y.ill(2, true);
        y.damp(1, true);
        y.watch(0, 3);
        y.tell(2, 0);
        x.turn(9);
        y.turn(9);
        c.due("it goes on as if nothing had been", all(x), all(y));
    }

    private static void theBook() {
        c.says("Terms 4", "the BOOK with all that became of it");
        MarginPlan x = Check.with(BOOK);
        x.turn(2);
        String ahead = all(x);
        x.mark();
        Check.book(x, "cell z blind;cell b pricks 1;secret y letters 20;secret s letters 1;page w room 60;page p room 0;knows z y;order b;read p odds 16;");
        x.turn(4);
        c.fine(x, "back", x.back(), 0);
        c.due("all", all(x), ahead);
        c.fine(x, "its NAMES", Check.rounds(x, "move a b;rub q;when knows d t;end;when full p;end;when all s;end;"), 5);
        c.roundsFault(x, "ill z;", 3, 4);
        c.roundsFault(x, "when all y;end;", 3, 9);
        c.roundsFault(x, "rub w;", 3, 4);
        x.mark();
        Check.book(x, "");
        x.back();
        c.due("all, behind a BOOK of nothing", all(x), ahead);
        MarginPlan empty = new MarginPlan();
        empty.mark();
        Check.book(empty, BOOK);
        empty.back();
        c.fine(empty, "a BOOK of nothing", empty.many(0) + empty.many(1) + empty.many(2) + empty.many(3), 0);
    }

    private static void theRounds() {
        c.says("Terms 4", "the ROUNDS are kept as they are");
        MarginPlan x = Check.with(BOOK);
        x.mark();
        Check.rounds(x, "turn 1;loop 3;turn 2;end;");
        x.mark();
        Check.rounds(x, "loop 2;turn 9;end;stop;");
        x.live(0);
        c.fine(x, "TURNS", x.lived(1), 18);
        x.back();
        c.fine(x, "those of the MARK", x.live(0), 5);
        c.fine(x, "TURNS", x.lived(1), 7);
        x.back();
        c.refused(x, "none", x.live(0), 8);
        Check.rounds(x, "turn 3;");
        x.mark();
        Check.book(x, BOOK);
        c.refused(x, "none by a BOOK", x.live(0), 8);
        x.back();
        c.fine(x, "they are there again", x.live(0), 1);
    }

    private static void theLatest() {
        c.says("Promise 53", "to the latest MARK");
        MarginPlan x = Check.with(BOOK);
        for (int i = 1; i <= 3; i++) {
            x.turn(i);
            x.mark();
        }
        x.turn(50);
        x.mark();
        int[] turns = {6, 3, 1};
        for (int i = 0; i < 3; i++) {
            x.back();
            c.fine(x, "TURNS", x.many(4), turns[i]);
        }
    }

    private static void notTheRest() {
        c.says("Terms 4", "the BOOK with all that became of it, the ROUNDS");
        MarginPlan x = Check.with(BOOK);
        x.tray(1, 0, 1);
        x.mark();
        Texts.lay(x, 0, 0, 5);
        x.write(1, 0, 7);
        x.tray(2, 0, 3);
        x.turn(1);
        x.watch(0, 4);
        x.caught();
        x.tell(2, 0);
        x.tell(2, 1);
        x.bestOrder();
        Check.rounds(x, "turn 6;");
        x.live(0);
        Check.rounds(x, "!");
        Check.feed(x, "stop;");
        c.fine(x, "back", x.back(), 0);
        c.fine(x, "TRAYS are none of it", x.read(0, 0) * 10 + x.read(1, 0), 57);
        c.fine(x, "TRAYS are none of it", x.read(2, 2), 0);
        c.due("nor is the FRACTION", x.top() * 100 + x.bottom(), 104);
        c.fine(x, "whatever came since: the BEST ORDER", x.bestAt(1), 1);
        c.fine(x, "whatever came since: what was LIVED", x.lived(1), 6);
        c.due("nor what fault() tells", x.fault(0), 1);
        c.due("nor what fault() tells", x.fault(1), 0);
        c.fine(x, "nor the tape", x.rounds(5), 1);
    }

    private static void marksStay() {
        c.says("Promise 52", "how many there are");
        MarginPlan x = Check.with(BOOK);
        c.fine(x, "mark", x.mark(), 1);
        Check.book(x, "cell z;");
        Check.rounds(x, "turn 1;");
        x.live(0);
        x.back();
        x.mark();
        Check.book(x, "!");
        Check.book(x, "");
        c.fine(x, "a BOOK takes none away", x.mark(), 2);
        c.fine(x, "back", x.back(), 1);
        c.fine(x, "back", x.back(), 0);
        c.fine(x, "CELLS", x.many(0), 3);
    }
}
