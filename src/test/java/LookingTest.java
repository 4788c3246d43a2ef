/** Promises 13 to 21: what is told of the BOOK. */
public final class LookingTest {
    private static final Check c = new Check("LookingTest");
    private static final String BOOK = "cell ann pricks 4; cell bob pricks 3 blind; cell cid pricks 6 rubs; cell dan;"
        + "secret door letters 5; secret day letters 3; page one room 9; page two room 2; page tri room 0;"
        + "knows ann door; knows cid day; knows ann day; order cid ann bob; read two odds 8;";

    public static void main(String[] args) {
        counts();
        cells();
        pages();
        order();
        knowing();
        copying();
        c.end();
    }

    private static void counts() {
        MarginPlan x = Check.with(BOOK);
        c.refused(x, "many(-1)", x.many(-1), 5);
        c.refused(x, "many(9)", x.many(9), 5);
        c.fine(x, "cells", x.many(0), 4);
        c.fine(x, "secrets", x.many(1), 2);
        c.fine(x, "pages", x.many(2), 3);
        c.fine(x, "in order", x.many(3), 3);
        x.turn(2);
        c.fine(x, "turns", x.many(4), 2);
        c.fine(x, "on all pages", x.many(5), 7);
        c.fine(x, "made", x.many(6), 7);
        x.rub(0);
        c.fine(x, "on all pages", x.many(5), 0);
        c.fine(x, "made", x.many(6), 7);
        c.fine(x, "nobody ill", x.many(7), 0);
        x.ill(3, true);
        x.ill(0, true);
        c.fine(x, "ill", x.many(7), 9);
        x.damp(1, true);
        x.damp(2, true);
        c.fine(x, "shut", x.many(8), 6);
        x.turn(1);
        c.fine(x, "turns", x.many(4), 3);
    }

    private static void cells() {
        MarginPlan x = Check.with(BOOK);
        c.refused(x, "no such", x.cell(-1, 0), 2);
        c.refused(x, "no such", x.cell(4, 0), 2);
        c.refused(x, "2 ahead of 5", x.cell(4, 9), 2);
        c.refused(x, "what -1", x.cell(0, -1), 5);
        c.refused(x, "what 6", x.cell(0, 6), 5);
        c.fine(x, "pricks", x.cell(2, 0), 6);
        c.fine(x, "blind", x.cell(1, 1), 1);
        c.fine(x, "not blind", x.cell(0, 1), 0);
        c.fine(x, "rubs", x.cell(2, 2), 1);
        c.fine(x, "rubs not", x.cell(1, 2), 0);
        c.fine(x, "knows", x.cell(0, 3), 3);
        c.fine(x, "knows", x.cell(2, 3), 2);
        c.fine(x, "knows nothing", x.cell(1, 3), 0);
        c.fine(x, "place", x.cell(2, 4), 0);
        c.fine(x, "place", x.cell(1, 4), 2);
        c.refused(x, "not in the order", x.cell(3, 4), 8);
        x.turn(3);
        c.fine(x, "made", x.cell(0, 5), 4);
        c.fine(x, "made", x.cell(2, 5), 3);
        c.fine(x, "made", x.cell(1, 5), 0);
        x.turn(3);
        c.fine(x, "made in all", x.cell(0, 5), 5);
    }

    private static void pages() {
        MarginPlan x = Check.with(BOOK);
        c.refused(x, "secret -1", x.secret(-1), 2);
        c.refused(x, "secret 2", x.secret(2), 2);
        c.fine(x, "letters", x.secret(1), 3);
        c.refused(x, "page -1", x.page(-1, 0), 2);
        c.refused(x, "page 3", x.page(3, 0), 2);
        c.refused(x, "2 ahead of 5", x.page(3, 9), 2);
        c.refused(x, "what -1", x.page(0, -1), 5);
        c.refused(x, "what 4", x.page(0, 4), 5);
        c.fine(x, "room", x.page(0, 0), 9);
        c.fine(x, "sixteenths", x.page(1, 1), 8);
        c.fine(x, "sixteenths of none", x.page(0, 1), 0);
        x.turn(1);
        c.fine(x, "free", x.page(0, 2), 6);
        c.fine(x, "free", x.page(2, 2), 0);
        c.fine(x, "stands", x.page(0, 3), 2);
        x.damp(0, true);
        c.fine(x, "stands on a shut page", x.page(0, 3), 2);
        c.refused(x, "pricks on page 3", x.pricks(3, 0), 2);
        c.refused(x, "pricks on page -1", x.pricks(-1, 0), 2);
        c.refused(x, "pricks of secret 2", x.pricks(0, 2), 2);
        c.refused(x, "pricks of secret -1", x.pricks(0, -1), 2);
        c.fine(x, "pricks", x.pricks(0, 1), 3);
        c.fine(x, "pricks", x.pricks(0, 0), 0);
    }

    private static void order() {
        MarginPlan x = Check.with(BOOK);
        c.fine(x, "first", x.orderAt(0), 2);
        c.fine(x, "last", x.orderAt(2), 1);
        c.refused(x, "orderAt(3)", x.orderAt(3), 8);
        c.refused(x, "orderAt(-1)", x.orderAt(-1), 8);
        c.fine(x, "next", x.next(), 2);
        x.ill(2, true);
        c.fine(x, "next", x.next(), 0);
        x.ill(0, true);
        c.fine(x, "next", x.next(), 1);
        x.ill(1, true);
        c.refused(x, "all are ill", x.next(), 8);
        x.ill(2, false);
        c.fine(x, "next", x.next(), 2);
        x.turn(1);
        x.ill(1, false);
        c.fine(x, "next", x.next(), 1);
        x.turn(1);
        c.fine(x, "round again", x.next(), 2);
    }

    private static void knowing() {
        MarginPlan x = Check.with(BOOK);
        c.refused(x, "knowers(-1)", x.knowers(-1), 2);
        c.refused(x, "knowers(2)", x.knowers(2), 2);
        c.fine(x, "knowers", x.knowers(0), 1);
        c.fine(x, "knowers", x.knowers(1), 5);
        x.tell(3, 0);
        c.fine(x, "knowers", x.knowers(0), 9);
    }

    private static void copying() {
        MarginPlan x = Check.with(BOOK);
        x.turn(2);
        x.tray(0, 0, 3);
        x.write(0, 2, 9);
        c.fine(x, "copyPage", x.copyPage(0, 0), 2);
        c.fine(x, "first", x.read(0, 0), 4);
        c.fine(x, "second", x.read(0, 1), 3);
        c.fine(x, "the rest stays", x.read(0, 2), 9);
        c.refused(x, "tray -1", x.copyPage(0, -1), 1);
        c.refused(x, "tray 4", x.copyPage(0, 4), 1);
        c.refused(x, "1 ahead of 2", x.copyPage(9, 4), 1);
        c.refused(x, "page 3", x.copyPage(3, 0), 2);
        c.refused(x, "page -1", x.copyPage(-1, 0), 2);
        c.refused(x, "2 ahead of 3", x.copyPage(3, 1), 2);
        c.refused(x, "missing", x.copyPage(0, 1), 3);
        x.tray(1, 3, 1);
        x.write(1, 0, 9);
        c.refused(x, "too few", x.copyPage(0, 1), 4);
        c.fine(x, "nothing came", x.read(1, 0), 9);
        x.tray(1, 3, 2);
        c.fine(x, "just as many", x.copyPage(1, 1), 2);
        MarginPlan none = Check.with("page p room 4;");
        none.tray(0, 0, 0);
        c.fine(none, "no secrets", none.copyPage(0, 0), 0);
    }
}
