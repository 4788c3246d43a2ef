/** Promises 9 to 12: the tape, the BOOK and its FAULTS. */
public final class TextsTest {
    private static final Check c = new Check("TextsTest");
    private static final String TWO = "cell a; cell b; secret s letters 3; page p room 4; ";

    public static void main(String[] args) {
        feeding();
        takingABook();
        lengths();
        tokens();
        standing();
        names();
        numbers();
        orders();
        tooMany();
        firstFault();
        faultKept();
        c.end();
    }

    private static void feeding() {
        MarginPlan x = new MarginPlan();
        for (int i = 1; i <= 45; i++) {
            c.due("feed", x.feed(0, 0, 0, 0, 0), 20 * i);
        }
        c.due("feed above 900", x.feed(0, 0, 0, 0, 0), -1);
        c.due("feed has no status", x.status(), 0);
        c.refused(x, "book(901)", x.book(901), 5);
        c.due("still full", x.feed(0, 0, 0, 0, 0), -1);
        c.refused(x, "book(900)", x.book(900), 10);
        c.due("emptied by 10", x.feed(0, 0, 0, 0, 0), 20);
        c.fine(x, "book(0)", x.book(0), 0);
        c.due("emptied by a book", x.feed(0, 0, 0, 0, 0), 20);
        c.fine(x, "rounds(0)", x.rounds(0), 0);
        c.due("emptied by rounds", x.feed(0, 0, 0, 0, 0), 20);
        x.book(0);
        // The highest byte of each int comes first.
        c.due("feed", x.feed(0x63656c6c, 0x20616263, 0x3b202020, 0x20202020, 0x2020200a), 20);
        c.fine(x, "book of <cell abc;>", x.book(20), 1);
    }

    private static void takingABook() {
        MarginPlan x = Check.with(TWO + "knows a s; knows a s; order b a; read p odds 3; read p odds 5;");
        x.turn(3);
        x.tell(1, 0);
        Check.rounds(x, "turn 1;");
        c.fine(x, "a book anew", Check.book(x, "cell c blind; page q room 0;"), 1);
        c.fine(x, "cells", x.many(0), 1);
        c.fine(x, "secrets", x.many(1), 0);
        c.fine(x, "pages", x.many(2), 1);
        c.fine(x, "order", x.many(3), 1);
        c.fine(x, "turns", x.many(4), 0);
        c.fine(x, "pricks", x.many(5), 0);
        c.fine(x, "made", x.many(6), 0);
        c.fine(x, "made by 0", x.cell(0, 5), 0);
        c.fine(x, "known by 0", x.cell(0, 3), 0);
        c.fine(x, "sixteenths", x.page(0, 1), 0);
        c.refused(x, "no rounds", x.live(0), 8);
        c.fine(x, "the latest odds", Check.book(x, TWO + "read p odds 3; read p odds 5;"), 2);
        c.fine(x, "the latest odds", x.page(0, 1), 5);
        c.fine(x, "the latest order", Check.book(x, TWO + "order a; order b a; cell c;"), 3);
        c.fine(x, "in order", x.many(3), 2);
        c.fine(x, "first", x.orderAt(0), 1);
        c.fine(x, "second", x.orderAt(1), 0);
        c.fine(x, "eight of all kinds", Check.book(x, "cell a blind rubs; cell b blind; secret s letters 5; knows b s; page p room 3;"), 2);
        c.fine(x, "nothing of it is left", Check.book(x, "cell c; cell d rubs; secret u letters 3; page v room 2;"), 2);
        c.fine(x, "not blind", x.cell(0, 1) + x.cell(1, 1), 0);
        c.fine(x, "only the second rubs", x.cell(0, 2) * 10 + x.cell(1, 2), 1);
        c.fine(x, "nobody knows", x.knowers(0), 0);
        c.fine(x, "two in order", x.many(3), 2);
        c.fine(x, "without an order all", Check.book(x, "cell c; cell b; cell a;"), 3);
        c.fine(x, "in order", x.many(3), 3);
        c.fine(x, "by numbers", x.orderAt(2), 2);
        c.fine(x, "without blanks", Check.book(x, "cell a pricks0blind\nrubs;cell b pricks 20;"), 2);
        c.fine(x, "pricks 0", x.cell(0, 0), 0);
        c.fine(x, "blind", x.cell(0, 1), 1);
        c.fine(x, "rubs", x.cell(0, 2), 1);
        c.fine(x, "pricks 20", x.cell(1, 0), 20);
        c.fine(x, "not blind", x.cell(1, 1), 0);
        c.fine(x, "rubs not", x.cell(1, 2), 0);
        c.fine(x, "pricks told by none", Check.book(x, "cell a;"), 1);
        c.fine(x, "five", x.cell(0, 0), 5);
        c.fine(x, "leading zeros", Check.book(x, "secret s letters 0020; page p room 0060;"), 0);
        c.fine(x, "twenty", x.secret(0), 20);
        c.fine(x, "sixty", x.page(0, 0), 60);
    }

    private static void lengths() {
        MarginPlan x = Check.with("cell a;");
        Check.feed(x, "cell b; cell c;");
        c.refused(x, "book(-1)", x.book(-1), 5);
        c.refused(x, "book(21)", x.book(21), 5);
        c.refused(x, "rounds(-1)", x.rounds(-1), 5);
        c.refused(x, "rounds(21)", x.rounds(21), 5);
        c.due("fault(0) stays", x.fault(0), 0);
        c.fine(x, "the tape stays with 5", x.book(15), 2);
        Check.feed(x, "cell ab pricks 123;");
        c.refused(x, "cut in a word", x.book(6), 10);
        c.due("fault(0)", x.fault(0), 2);
        c.due("fault(1)", x.fault(1), 6);
        Check.feed(x, "cell ab pricks 20000;");
        c.refused(x, "cut in a number", x.book(17), 10);
        c.due("fault(0)", x.fault(0), 2);
        c.due("fault(1)", x.fault(1), 17);
        Check.feed(x, Check.times("stop;\n    ", 40));
        c.refused(x, "rounds(301)", x.rounds(301), 5);
        c.fine(x, "rounds(300)", x.rounds(300), 30);
    }

    private static void tokens() {
        MarginPlan x = Check.with("");
        c.bookFault(x, "!", 1, 0);
        c.bookFault(x, "cell A;", 1, 5);
        c.bookFault(x, "cell a\t;", 1, 6);
        c.bookFault(x, "cell a pricks 12345;", 1, 14);
        c.bookFault(x, "12345", 1, 0);
        c.bookFault(x, "1234", 2, 0);
        c.bookFault(x, "cell a pricks 00005;", 1, 14);
        c.bookFault(x, "cell a pricks -1;", 1, 14);
        c.bookFault(x, "cell a; {", 1, 8);
        c.bookFault(x, "cell a_b;", 1, 6);
        c.bookFault(x, "cell \u00e9;", 1, 5);
        c.bookFault(x, "cell a:", 1, 6);
        c.bookFault(x, "cell a?", 1, 6);
        c.bookFault(x, "cell a`", 1, 6);
        c.bookFault(x, "<", 2, 0);
        c.bookFault(x, "cell a >", 2, 7);
        c.bookFault(x, "cell =", 2, 5);
        c.bookFault(x, ";", 2, 0);
    }

    private static void standing() {
        MarginPlan x = Check.with("cell z;");
        c.bookFault(x, "cell", 2, 4);
        c.bookFault(x, "cell a", 2, 6);
        c.bookFault(x, "cell a  \n", 2, 9);
        c.bookFault(x, "cell 5", 2, 5);
        c.bookFault(x, "cell a b;", 2, 7);
        c.bookFault(x, "cell a pricks;", 2, 13);
        c.bookFault(x, "cell a blind pricks 4;", 2, 13);
        c.bookFault(x, "cell a rubs blind;", 2, 12);
        c.bookFault(x, "cell a rubs rubs;", 2, 12);
        c.bookFault(x, "secret s 5;", 2, 9);
        c.bookFault(x, "secret s letters five;", 2, 17);
        c.bookFault(x, "secret s letters 5 cell", 2, 19);
        c.bookFault(x, "page p letters 5;", 2, 7);
        c.bookFault(x, "page p room ;", 2, 12);
        c.bookFault(x, TWO + "knows a;", 2, TWO.length() + 7);
        c.bookFault(x, TWO + "knows a s s;", 2, TWO.length() + 10);
        c.bookFault(x, TWO + "order;", 2, TWO.length() + 5);
        c.bookFault(x, TWO + "order a 5;", 2, TWO.length() + 8);
        c.bookFault(x, TWO + "order a", 2, TWO.length() + 7);
        c.bookFault(x, TWO + "order a cell;", 2, TWO.length() + 8);
        c.bookFault(x, TWO + "read p room 5;", 2, TWO.length() + 7);
        c.bookFault(x, TWO + "read p odds;", 2, TWO.length() + 11);
        c.bookFault(x, "go", 2, 0);
        c.bookFault(x, "cells a;", 2, 0);
        c.bookFault(x, "blind", 2, 0);
        c.bookFault(x, "turn 1;", 2, 0);
        c.bookFault(x, "abcdefghijkl", 2, 0);
        c.due("the old one stays", x.many(0), 1);
    }

    private static void names() {
        MarginPlan x = Check.with("");
        String[] no = {"cell", "pricks", "blind", "rubs", "secret", "letters", "page", "room", "knows", "order", "read",
            "odds", "turn", "ill", "move", "rub", "damp", "warder", "when", "full", "all", "loop", "end", "stop"};
        for (String word : no) {
            c.bookFault(x, "cell " + word + ";", 2, 5);
            c.bookFault(x, TWO + "order " + word + ";", 2, TWO.length() + 6);
            c.fine(x, "longer", Check.book(x, "cell " + (word + "x").substring(0, Math.min(8, word.length() + 1)) + ";"), 1);
        }
        c.fine(x, "8 letters", Check.book(x, "cell abcdefgh;"), 1);
        c.bookFault(x, "cell abcdefghi;", 2, 5);
        c.bookFault(x, TWO + "order abcdefghi;", 2, TWO.length() + 6);
        c.bookFault(x, "cell a; cell a;", 3, 13);
        c.bookFault(x, "cell a; secret a letters 4;", 3, 15);
        c.bookFault(x, "secret a letters 4; page a room 4;", 3, 25);
        c.bookFault(x, "page a room 4; cell a;", 3, 20);
        c.fine(x, "begins alike", Check.book(x, "cell a; cell aa; cell ab; secret aaa letters 1;"), 3);
        c.bookFault(x, TWO + "knows s s;", 3, TWO.length() + 6);
        c.bookFault(x, TWO + "knows a a;", 3, TWO.length() + 8);
        c.bookFault(x, TWO + "knows p s;", 3, TWO.length() + 6);
        c.bookFault(x, TWO + "knows a p;", 3, TWO.length() + 8);
        c.bookFault(x, TWO + "read a odds 4;", 3, TWO.length() + 5);
        c.bookFault(x, TWO + "read s odds 4;", 3, TWO.length() + 5);
        c.bookFault(x, TWO + "order p;", 3, TWO.length() + 6);
        c.bookFault(x, TWO + "order a s;", 3, TWO.length() + 8);
        c.bookFault(x, "cell a; order a b; cell b;", 3, 16);
        c.bookFault(x, "read p odds 4; page p room 4;", 3, 5);
    }

    private static void numbers() {
        MarginPlan x = Check.with("");
        c.bookFault(x, "cell a pricks 21;", 4, 14);
        c.bookFault(x, "cell a pricks 9999;", 4, 14);
        c.bookFault(x, "secret s letters 0;", 4, 17);
        c.bookFault(x, "secret s letters 21;", 4, 17);
        c.bookFault(x, "page p room 61;", 4, 12);
        c.bookFault(x, "page p room 5; read p odds 17;", 4, 27);
        c.fine(x, "odds 16", Check.book(x, "page p room 5; read p odds 16;"), 0);
        c.fine(x, "odds 16", x.page(0, 1), 16);
        c.fine(x, "letters 1", Check.book(x, "secret s letters 1;"), 0);
    }

    private static void orders() {
        MarginPlan x = Check.with("");
        c.bookFault(x, TWO + "order a a;", 5, TWO.length() + 8);
        c.bookFault(x, TWO + "order a b a c;", 5, TWO.length() + 10);
        c.bookFault(x, TWO + "order a; order b b;", 5, TWO.length() + 17);
        StringBuilder eight = new StringBuilder();
        for (char name = 'a'; name < 'i'; name++) {
            eight.append("cell ").append(name).append(';');
        }
        c.fine(x, "eight in order", Check.book(x, eight + "order h g f e d c b a;"), 8);
        c.fine(x, "the last", x.cell(0, 4), 7);
        c.bookFault(x, eight + "order h g f e d c b a h;", 5, 56 + 22);
    }

    private static void tooMany() {
        MarginPlan x = Check.with("");
        StringBuilder cells = new StringBuilder();
        StringBuilder secrets = new StringBuilder();
        StringBuilder pages = new StringBuilder();
        for (char name = 'a'; name < 'i'; name++) {
            cells.append("cell ").append(name).append(';');
        }
        for (char name = 'j'; name < 'p'; name++) {
            secrets.append("secret ").append(name).append(" letters 5;");
            pages.append("page ").append(name).append(name).append(" room 5;");
        }
        c.fine(x, "eight cells", Check.book(x, cells.toString()), 8);
        c.fine(x, "six of each", Check.book(x, cells + secrets.toString() + pages), 8);
        c.fine(x, "secrets", x.many(1), 6);
        c.fine(x, "pages", x.many(2), 6);
        c.bookFault(x, cells + "cell cell;", 6, cells.length());
        c.bookFault(x, cells + "\n cell", 6, cells.length() + 2);
        c.bookFault(x, secrets + "secret x letters 5;", 6, secrets.length());
        c.bookFault(x, pages + "page aa room 5;", 6, pages.length());
    }

    private static void firstFault() {
        MarginPlan x = Check.with("");
        c.bookFault(x, "cell a; cell a pricks 50; !", 3, 13);
        c.bookFault(x, "cell a pricks 50 !", 4, 14);
        c.bookFault(x, "cell a pricks ! 50", 1, 14);
        c.bookFault(x, "go !", 2, 0);
        c.bookFault(x, "cell 123456", 1, 5);
    }

    private static void faultKept() {
        MarginPlan x = new MarginPlan();
        x.book(5);
        c.due("no fault by 5", x.fault(0), -1);
        c.fine(x, "nothing", x.book(0), 0);
        c.due("fault(0)", x.fault(0), 0);
        c.due("fault(1)", x.fault(1), -1);
        c.due("fault(2)", x.fault(2), -1);
        c.due("fault(-1)", x.fault(-1), -1);
        c.bookFault(x, "cell a; cell a;", 3, 13);
        x.book(5);
        x.rounds(400);
        c.due("fault(0) stays by 5", x.fault(0), 3);
        c.due("fault(1) stays by 5", x.fault(1), 13);
        c.due("fault(2)", x.fault(2), -1);
        x.mark();
        x.rounds(0);
        c.due("fault(0) of rounds", x.fault(0), 0);
        c.due("fault(1) of rounds", x.fault(1), -1);
        c.roundsFault(x, " go", 2, 1);
        x.back();
        c.due("fault(0) is not taken back", x.fault(0), 2);
        c.due("fault(1) is not taken back", x.fault(1), 1);
    }
}
