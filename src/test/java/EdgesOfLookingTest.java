/** The edges of promises 13 to 28, sentence by sentence: what is told of a BOOK, and what is done. */
public final class EdgesOfLookingTest {
    private static final Check c = new Check("EdgesOfLookingTest");
    private static final int LEAST = Integer.MIN_VALUE;
    private static final int MOST = Integer.MAX_VALUE;
    private static final String BOOK = "cell a pricks 4;cell b pricks 3 blind;cell d pricks 6 rubs;cell e;secret s letters 5;secret t letters 3;"
        + "page p room 9;page q room 2;page r room 0;knows a s;knows d t;order d a b;read q odds 8;";

    public static void main(String[] args) {
        many();
        manyWhat();
        manyEver();
        cell();
        cellWhat();
        placeInTheOrder();
        secret();
        page();
        pricks();
        orderAt();
        next();
        knowers();
        copyPage();
        copyTooFew();
        turn();
        turnTooMany();
        rub();
        damp();
        ill();
        move();
        tell();
        watch();
        c.end();
    }

    private static void many() {
        c.says("Promise 13", "CELLS (what 0), SECRETS (1), PAGES (2); how many CELLS are in the ORDER (3), TURNS there were (4), PRICKS on all PAGES (5)");
        MarginPlan x = Check.with(BOOK);
        int[] first = {4, 2, 3, 3, 0, 0, 0, 0, 0};
        for (int what = 0; what < 9; what++) {
            c.fine(x, "at first, many(" + what + ")", x.many(what), first[what]);
        }
        x.turn(2);
        x.ill(3, true);
        x.damp(2, true);
        int[] then = {4, 2, 3, 3, 2, 7, 7, 8, 4};
        for (int what = 0; what < 9; what++) {
            c.fine(x, "then, many(" + what + ")", x.many(what), then[what]);
        }
        MarginPlan most = Check.with(Texts.cells(8, "") + Texts.secrets(6, 20) + Texts.pages(6, 60));
        int[] all = {8, 6, 6, 8};
        for (int what = 0; what < 4; what++) {
            c.fine(most, "the most, many(" + what + ")", most.many(what), all[what]);
        }
        c.says("Promise 13", "sets of CELLS that are ILL (7: 1 for CELL 0 ..), of PAGES that are SHUT (8)");
        for (int cell = 0; cell < 8; cell++) {
            most.ill(cell, true);
            c.fine(most, "ILL", most.many(7), (2 << cell) - 1);
        }
        for (int page = 0; page < 6; page++) {
            most.damp(page, true);
            c.fine(most, "SHUT", most.many(8), (2 << page) - 1);
        }
    }

    private static void manyWhat() {
        c.says("Promise 13", "(5)");
        MarginPlan x = Check.with(BOOK);
        for (int what : new int[] {-1, 9, LEAST, MOST}) {
            c.refused(x, "many(" + what + ")", x.many(what), 5);
        }
    }

    private static void manyEver() {
        c.says("Promise 13", "PRICKS that were ever made (6)");
        MarginPlan x = Check.with("cell a pricks 4;cell b pricks 2 rubs;secret s letters 4;page p room 9;knows a s;");
        x.turn(2);
        c.fine(x, "also what is rubbed out in a TURN", x.many(6), 6);
        c.fine(x, "on PAGES", x.many(5), 2);
        x.rub(0);
        c.fine(x, "also what is rubbed out by RUB", x.many(6), 6);
        c.fine(x, "on PAGES", x.many(5), 0);
        x.turn(1);
        c.fine(x, "anew", x.many(6), 10);
        x.damp(0, true);
        c.fine(x, "on a SHUT PAGE, too", x.many(5), 4);
    }

    private static void cell() {
        c.says("Promise 14", "(2; 5)");
        MarginPlan x = Check.with(BOOK);
        for (int cell : new int[] {-1, 4, LEAST, MOST}) {
            c.refused(x, "cell(" + cell + ", 0)", x.cell(cell, 0), 2);
            c.refused(x, "2 ahead of 5", x.cell(cell, 6), 2);
        }
        for (int what : new int[] {-1, 6, LEAST, MOST}) {
            c.refused(x, "cell(3, " + what + ")", x.cell(3, what), 5);
        }
        c.refused(x, "5 of one that is not in the ORDER", x.cell(3, 6), 5);
        MarginPlan none = new MarginPlan();
        c.refused(none, "there is no CELL", none.cell(0, 0), 2);
    }

    private static void cellWhat() {
        c.says("Promise 14", "Of a CELL, what 0: PRICKS a TURN, 1: 1 if it is BLIND, else 0, 2: 1 if it RUBS, else 0, 3: the set of SECRETS it KNOWS");
        MarginPlan x = Check.with(BOOK);
        int[][] due = {{4, 0, 0, 1, 1, 0}, {3, 1, 0, 0, 2, 0}, {6, 0, 1, 2, 0, 0}};
        for (int cell = 0; cell < 3; cell++) {
            for (int what = 0; what < 6; what++) {
                c.fine(x, "cell(" + cell + ", " + what + ")", x.cell(cell, what), due[cell][what]);
            }
        }
        c.says("Promise 14", "5: how many PRICKS it made in all");
        x.turn(2);
        c.fine(x, "d", x.cell(2, 5), 3);
        c.fine(x, "a", x.cell(0, 5), 4);
        x.rub(0);
        c.fine(x, "rubbed out or not", x.cell(0, 5), 4);
        x.turn(3);
        c.fine(x, "and more", x.cell(0, 5), 8);
        c.fine(x, "and more", x.cell(2, 5), 6);
    }

    private static void placeInTheOrder() {
        c.says("Promise 14", "4: its place in the ORDER (8: it is not in it)");
        MarginPlan x = Check.with(BOOK);
        c.fine(x, "the first place", x.cell(2, 4), 0);
        c.fine(x, "the last place", x.cell(1, 4), 2);
        c.refused(x, "none", x.cell(3, 4), 8);
        x.move(1, 2);
        c.fine(x, "moved", x.cell(2, 4), 2);
        x.ill(2, true);
        c.fine(x, "ILL ones, too", x.cell(2, 4), 2);
        MarginPlan eight = Check.with(Texts.cells(8, ""));
        c.fine(eight, "the eighth place", eight.cell(7, 4), 7);
    }

    private static void secret() {
        c.says("Promise 15", "LETTERS of a SECRET (2).");
        MarginPlan x = Check.with(BOOK);
        c.fine(x, "the first", x.secret(0), 5);
        c.fine(x, "the last", x.secret(1), 3);
        for (int secret : new int[] {-1, 2, 6, LEAST, MOST}) {
            c.refused(x, "secret(" + secret + ")", x.secret(secret), 2);
        }
    }

    private static void page() {
        c.says("Promise 16", "Of a PAGE, what 0: ROOM, 1: its sixteenths, 2: FREE, 3: the set of SECRETS that STAND on it (2; 5).");
        MarginPlan x = Check.with(BOOK);
        x.turn(4);
        int[][] due = {{9, 0, 1, 3}, {2, 8, 2, 0}, {0, 0, 0, 0}};
        x.turn(1);
        for (int page = 0; page < 3; page++) {
            for (int what = 0; what < 4; what++) {
                c.fine(x, "page(" + page + ", " + what + ")", x.page(page, what), due[page][what]);
            }
        }
        for (int page : new int[] {-1, 3, LEAST, MOST}) {
            c.refused(x, "page(" + page + ", 0)", x.page(page, 0), 2);
            c.refused(x, "2 ahead of 5", x.page(page, 4), 2);
        }
        for (int what : new int[] {-1, 4, LEAST, MOST}) {
            c.refused(x, "page(2, " + what + ")", x.page(2, what), 5);
        }
        x.damp(0, true);
        c.fine(x, "what stands on a SHUT one", x.page(0, 3), 3);
    }

    private static void pricks() {
        c.says("Promise 17", "How many PRICKS of a SECRET are on a PAGE (2).");
        MarginPlan x = Check.with(Texts.cells(1, " pricks 20") + Texts.secrets(6, 2) + Texts.pages(6, 2) + Texts.knows('a', 6));
        x.turn(1);
        for (int page = 0; page < 6; page++) {
            for (int secret = 0; secret < 6; secret++) {
                c.fine(x, "pricks(" + page + ", " + secret + ")", x.pricks(page, secret), page == secret ? 2 : 0);
            }
        }
        for (int no : new int[] {-1, 6, LEAST, MOST}) {
            c.refused(x, "pricks(" + no + ", 0)", x.pricks(no, 0), 2);
            c.refused(x, "pricks(0, " + no + ")", x.pricks(0, no), 2);
        }
        MarginPlan few = Check.with(BOOK);
        c.refused(few, "no such PAGE, though there are as many places", few.pricks(3, 0), 2);
        c.refused(few, "no such SECRET", few.pricks(0, 2), 2);
    }

    private static void orderAt() {
        c.says("Promise 18", "The k-th CELL of the ORDER (8: no such).");
        MarginPlan x = Check.with(BOOK);
        c.fine(x, "the first", x.orderAt(0), 2);
        c.fine(x, "the last", x.orderAt(2), 1);
        for (int k : new int[] {-1, 3, 8, LEAST, MOST}) {
            c.refused(x, "orderAt(" + k + ")", x.orderAt(k), 8);
        }
        MarginPlan eight = Check.with(Texts.cells(8, ""));
        c.fine(eight, "the eighth", eight.orderAt(7), 7);
        c.refused(eight, "no ninth", eight.orderAt(8), 8);
    }

    private static void next() {
        c.says("Promise 19", "The CELL that has the book in the next TURN (8: none, all are ILL).");
        MarginPlan x = Check.with(BOOK);
        c.fine(x, "the first", x.next(), 2);
        x.ill(0, true);
        x.ill(1, true);
        c.fine(x, "one alone is WELL", x.next(), 2);
        x.turn(1);
        c.fine(x, "round and round", x.next(), 2);
        x.ill(2, true);
        c.refused(x, "all of the ORDER are ILL; e is not in it", x.next(), 8);
        x.ill(1, false);
        c.fine(x, "one is WELL", x.next(), 1);
        MarginPlan none = Check.with("page p room 3;");
        c.refused(none, "there is no CELL", none.next(), 8);
    }

    private static void knowers() {
        c.says("Promise 20", "The set of CELLS that KNOW a SECRET (2).");
        MarginPlan x = Check.with(Texts.cells(8, "") + Texts.secrets(2, 3) + "knows a sa;knows h sa;");
        c.fine(x, "the first and the eighth", x.knowers(0), 129);
        c.fine(x, "nobody", x.knowers(1), 0);
        for (int cell = 0; cell < 8; cell++) {
            x.tell(cell, 1);
        }
        c.fine(x, "all", x.knowers(1), 255);
        for (int secret : new int[] {-1, 2, 6, LEAST, MOST}) {
            c.refused(x, "knowers(" + secret + ")", x.knowers(secret), 2);
        }
    }

    private static void copyPage() {
        c.says("Promise 21", "PRICKS of a PAGE come to a TRAY, SECRET by SECRET: how many SECRETS (1; 2; 3; 4).");
        MarginPlan x = Check.with(BOOK);
        x.turn(2);
        Texts.lay(x, 0, 0, 7, 7, 7);
        c.fine(x, "copyPage", x.copyPage(0, 0), 2);
        c.fine(x, "s", x.read(0, 0), 4);
        c.fine(x, "t", x.read(0, 1), 3);
        c.fine(x, "the rest stays", x.read(0, 2), 7);
        for (int tray : new int[] {-1, 4, LEAST, MOST}) {
            c.refused(x, "tray " + tray, x.copyPage(0, tray), 1);
            c.refused(x, "1 ahead of 2", x.copyPage(3, tray), 1);
        }
        for (int page : new int[] {-1, 3, LEAST, MOST}) {
            c.refused(x, "page " + page, x.copyPage(page, 0), 2);
            c.refused(x, "2 ahead of 3", x.copyPage(page, 1), 2);
        }
        c.refused(x, "MISSING", x.copyPage(0, 1), 3);
        x.tray(1, 0, 1);
        c.refused(x, "2 ahead of 4", x.copyPage(3, 1), 2);
        MarginPlan most = Check.with(Texts.cells(1, " pricks 20") + Texts.secrets(6, 20) + Texts.pages(6, 60) + Texts.knows('a', 6));
        for (int sort = 0; sort < 4; sort++) {
            most.tray(sort, sort, 6);
        }
        most.turn(3);
        for (int sort = 0; sort < 4; sort++) {
            c.fine(most, "six", most.copyPage(0, sort), 6);
            c.fine(most, "20", most.read(sort, 2), 20);
            c.fine(most, "none", most.read(sort, 3), 0);
        }
        most.damp(0, true);
        c.fine(most, "a SHUT one, too", most.copyPage(0, 0), 6);
    }

    private static void copyTooFew() {
        c.says("Terms 5", "4 a place that the TRAY has not, or too few numbers.");
        MarginPlan x = Check.with(BOOK);
        x.turn(2);
        Texts.lay(x, 0, 0, 7);
        c.refused(x, "one place for two SECRETS", x.copyPage(0, 0), 4);
        c.fine(x, "nothing came", x.read(0, 0), 7);
        x.tray(0, 0, 0);
        c.refused(x, "no place", x.copyPage(0, 0), 4);
        x.tray(0, 0, 2);
        c.fine(x, "just two", x.copyPage(0, 0), 2);
        MarginPlan none = Check.with("page p room 3;");
        none.tray(0, 0, 0);
        c.fine(none, "no SECRETS, no place", none.copyPage(0, 0), 0);
    }

    private static void turn() {
        c.says("Promise 22", "So many TURNS (1 to 99): the TURN then (5; 7: above 9,999).");
        MarginPlan x = Check.with(BOOK);
        for (int turns : new int[] {0, -1, 100, LEAST, MOST}) {
            c.refused(x, "turn(" + turns + ")", x.turn(turns), 5);
        }
        c.fine(x, "no TURN was", x.many(4), 0);
        c.fine(x, "the least", x.turn(1), 1);
        c.fine(x, "the most", x.turn(99), 100);
    }

    private static void turnTooMany() {
        c.says("Promise 22", "7: above 9,999");
        MarginPlan x = Check.with(BOOK);
        for (int i = 0; i < 100; i++) {
            x.turn(99);
        }
        x.turn(50);
        c.refused(x, "one above", x.turn(50), 7);
        c.refused(x, "5 ahead of 7", x.turn(100), 5);
        c.refused(x, "5 ahead of 7", x.turn(MOST), 5);
        c.fine(x, "just there", x.turn(49), 9999);
        c.refused(x, "one above", x.turn(1), 7);
        c.refused(x, "5 as ever", x.turn(0), 5);
    }

    private static void rub() {
        c.says("Promise 23", "RUB a PAGE: how many PRICKS went (2; 8: none is there).");
        MarginPlan x = Check.with(BOOK);
        for (int page : new int[] {-1, 3, LEAST, MOST}) {
            c.refused(x, "rub(" + page + ")", x.rub(page), 2);
        }
        c.refused(x, "none is there", x.rub(0), 8);
        c.refused(x, "none is there, no ROOM", x.rub(2), 8);
        x.turn(2);
        c.fine(x, "all went", x.rub(0), 7);
        c.refused(x, "none is there any more", x.rub(0), 8);
        MarginPlan full = Check.with(Texts.cells(1, " pricks 20") + Texts.secrets(3, 20) + Texts.pages(1, 60) + Texts.knows('a', 3));
        full.turn(3);
        full.damp(0, true);
        c.fine(full, "the most, of a SHUT one", full.rub(0), 60);
    }

    private static void damp() {
        c.says("Promise 24", "DAMP (or DRY) (2; 9: it is so).");
        MarginPlan x = Check.with(BOOK);
        for (int page : new int[] {-1, 3, LEAST, MOST}) {
            c.refused(x, "damp(" + page + ", true)", x.damp(page, true), 2);
            c.refused(x, "damp(" + page + ", false)", x.damp(page, false), 2);
        }
        c.refused(x, "it is DRY", x.damp(2, false), 9);
        c.fine(x, "DAMP", x.damp(2, true));
        c.refused(x, "it is DAMP", x.damp(2, true), 9);
        c.fine(x, "SHUT", x.many(8), 4);
        c.fine(x, "DRY", x.damp(2, false));
        c.refused(x, "it is DRY", x.damp(2, false), 9);
        c.fine(x, "SHUT", x.many(8), 0);
    }

    private static void ill() {
        c.says("Promise 25", "ILL (or WELL) (2; 9: it is so).");
        MarginPlan x = Check.with(BOOK);
        for (int cell : new int[] {-1, 4, LEAST, MOST}) {
            c.refused(x, "ill(" + cell + ", true)", x.ill(cell, true), 2);
            c.refused(x, "ill(" + cell + ", false)", x.ill(cell, false), 2);
        }
        c.refused(x, "it is WELL", x.ill(3, false), 9);
        c.fine(x, "ILL, one that is not in the ORDER", x.ill(3, true));
        c.refused(x, "it is ILL", x.ill(3, true), 9);
        c.fine(x, "ILL", x.many(7), 8);
        c.fine(x, "WELL", x.ill(3, false));
        c.refused(x, "it is WELL", x.ill(3, false), 9);
        c.fine(x, "ILL", x.many(7), 0);
    }

    private static void move() {
        c.says("Promise 26", "MOVE: two CELLS of the ORDER (2; 9: one and itself, one that is not in it).");
        MarginPlan x = Check.with(BOOK);
        for (int cell : new int[] {-1, 4, LEAST, MOST}) {
            c.refused(x, "move(" + cell + ", 0)", x.move(cell, 0), 2);
            c.refused(x, "move(0, " + cell + ")", x.move(0, cell), 2);
            c.refused(x, "2 ahead of 9", x.move(cell, cell), 2);
            c.refused(x, "2 ahead of 9", x.move(3, cell), 2);
            c.refused(x, "2 ahead of 9", x.move(cell, 3), 2);
        }
        c.refused(x, "one and itself", x.move(0, 0), 9);
        c.refused(x, "one that is not in it, the first", x.move(3, 0), 9);
        c.refused(x, "one that is not in it, the second", x.move(0, 3), 9);
        c.refused(x, "both of these", x.move(3, 3), 9);
        c.fine(x, "the ORDER is as it was", x.orderAt(0) * 100 + x.orderAt(1) * 10 + x.orderAt(2), 201);
        c.fine(x, "two of it", x.move(0, 1));
        c.fine(x, "the ORDER", x.orderAt(0) * 100 + x.orderAt(1) * 10 + x.orderAt(2), 210);
        x.ill(2, true);
        c.fine(x, "an ILL one, too", x.move(2, 0));
        c.fine(x, "the ORDER", x.orderAt(0) * 100 + x.orderAt(1) * 10 + x.orderAt(2), 12);
        MarginPlan two = Check.with("cell a;cell b;cell d;order b;");
        c.refused(two, "two that are not in it", two.move(0, 2), 9);
    }

    private static void tell() {
        c.says("Promise 27", "TELL (2; 9: it KNOWS it).");
        MarginPlan x = Check.with(BOOK);
        for (int cell : new int[] {-1, 4, LEAST, MOST}) {
            c.refused(x, "tell(" + cell + ", 0)", x.tell(cell, 0), 2);
        }
        for (int secret : new int[] {-1, 2, 6, LEAST, MOST}) {
            c.refused(x, "tell(0, " + secret + ")", x.tell(0, secret), 2);
        }
        c.refused(x, "it KNOWS it", x.tell(0, 0), 9);
        c.fine(x, "it KNOWS it not", x.tell(0, 1));
        c.refused(x, "it KNOWS it now", x.tell(0, 1), 9);
        c.fine(x, "both", x.cell(0, 3), 3);
    }

    private static void watch() {
        c.says("Promise 28", "A PAGE is READ by so many sixteenths (0 to 16) from now on (2; 5).");
        MarginPlan x = Check.with(BOOK);
        for (int page : new int[] {-1, 3, LEAST, MOST}) {
            c.refused(x, "watch(" + page + ", 0)", x.watch(page, 0), 2);
            c.refused(x, "2 ahead of 5", x.watch(page, 17), 2);
        }
        for (int odds : new int[] {-1, 17, LEAST, MOST}) {
            c.refused(x, "watch(1, " + odds + ")", x.watch(1, odds), 5);
            c.fine(x, "as it was", x.page(1, 1), 8);
        }
        c.fine(x, "the least", x.watch(1, 0));
        c.fine(x, "from now on", x.page(1, 1), 0);
        c.fine(x, "the most", x.watch(1, 16));
        c.fine(x, "from now on", x.page(1, 1), 16);
        c.fine(x, "as it is", x.watch(1, 16));
        c.fine(x, "a SHUT one, too", x.damp(1, true) && x.watch(1, 3));
        c.fine(x, "from now on", x.page(1, 1), 3);
        c.fine(x, "no other", x.page(0, 1) + x.page(2, 1), 0);
    }
}
