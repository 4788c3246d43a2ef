/** The edges of Terms 1 on a BOOK, and of promises 9 to 12, sentence by sentence. */
public final class EdgesOfTextsTest {
    private static final Check c = new Check("EdgesOfTextsTest");
    private static final int LEAST = Integer.MIN_VALUE;
    private static final int MOST = Integer.MAX_VALUE;
    private static final int BLANKS = 0x20202020;
    private static final String[] NO_NAMES = {"cell", "pricks", "blind", "rubs", "secret", "letters", "page", "room", "knows", "order",
        "read", "odds", "turn", "ill", "move", "rub", "damp", "warder", "when", "full", "all", "loop", "end", "stop"};
    private static final String[] THREE = {"cell x;", "secret x letters 2;", "page x room 2;"};
    private static final String HEAD = "cell a;cell b;secret s letters 3;page p room 4;";
    private static final int H = HEAD.length();

    public static void main(String[] args) {
        byteOrder();
        behindTheTape();
        fullTape();
        bookLengths();
        bookIsTaken();
        emptyThen();
        oldOneStays();
        roundsLengths();
        roundsStay();
        faultTold();
        longestText();
        tokensGoOn();
        blanks();
        words();
        numbers();
        signs();
        eachPart();
        parts();
        names();
        noNames();
        oneThingAlone();
        mostCells();
        prickNumbers();
        blindAndRubs();
        mostSecrets();
        letterNumbers();
        mostPages();
        roomNumbers();
        oddsNumbers();
        knowing();
        orderOnce();
        orderLatest();
        orderOfAll();
        toldAhead();
        firstFault();
        leastKind();
        fault1();
        fault2();
        faultAtTheEnd();
        cutAnywhere();
        fault2LongWord();
        fault3();
        fault4();
        fault5();
        fault6();
        inPlace();
        c.end();
    }

    private static void byteOrder() {
        c.says("Promise 9", "Twenty bytes come behind those on the tape, the highest of each int first");
        for (int at = 0; at < 20; at++) {
            int[] five = {BLANKS, BLANKS, BLANKS, BLANKS, BLANKS};
            five[at / 4] ^= 1 << 24 - at % 4 * 8;
            MarginPlan x = new MarginPlan();
            c.due("feed", x.feed(five[0], five[1], five[2], five[3], five[4]), 20);
            c.refused(x, "book", x.book(20), 10);
            c.due("the FAULT of byte 33 is at " + at, x.fault(1), at);
        }
        MarginPlan x = new MarginPlan();
        // A ; with its highest bit set is none.
        x.feed(0x63656c6c, 0x2061bb20, BLANKS, BLANKS, BLANKS);
        c.refused(x, "book", x.book(20), 10);
        c.due("fault(0)", x.fault(0), 1);
        c.due("fault(1)", x.fault(1), 6);
        x.feed(-1, -1, -1, -1, -1);
        c.refused(x, "book of bytes 255", x.book(20), 10);
        c.due("fault(1)", x.fault(1), 0);
    }

    private static void behindTheTape() {
        c.says("Promise 9", "how many it has");
        MarginPlan x = new MarginPlan();
        // cell abcdefgh pricks / 20 blind; cell ij;
        c.due("feed", Check.feed(x, "cell abcdefgh pricks"), 20);
        c.due("feed", Check.feed(x, " 20 blind; cell ij; "), 40);
        c.fine(x, "book", x.book(40), 2);
        c.fine(x, "a NUMBER behind the first feed", x.cell(0, 0), 20);
        c.fine(x, "BLIND", x.cell(0, 1), 1);
    }

    private static void fullTape() {
        c.says("Promise 9", "NONE if there would be more than 900");
        MarginPlan x = new MarginPlan();
        for (int i = 1; i <= 44; i++) {
            c.due("feed", Check.feed(x, "                    "), 20 * i);
        }
        c.due("the last that goes", Check.feed(x, "             cell a;"), 900);
        c.due("one more", Check.feed(x, "!!!!!!!!!!!!!!!!!!!!"), -1);
        c.due("once more", Check.feed(x, "!!!!!!!!!!!!!!!!!!!!"), -1);
        c.fine(x, "the tape is as it was", x.book(900), 1);
        c.due("there is place again", Check.feed(x, "             cell a;"), 20);
        c.says("Terms 5", "status(), fault(), feed(), top(), bottom() have none.");
        x.many(9);
        for (int i = 2; i <= 46; i++) {
            x.feed(0, 0, 0, 0, 0);
            c.due("status() behind feed " + i, x.status(), 5);
        }
    }

    private static void bookLengths() {
        c.says("Promise 10", "The first n bytes of the tape (which is empty then, but for 5) are the BOOK");
        MarginPlan x = Check.with("cell z;");
        Check.feed(x, "cell a;cell b;!");
        for (int n : new int[] {-1, 21, LEAST, MOST}) {
            c.refused(x, "book(" + n + ")", x.book(n), 5);
        }
        c.fine(x, "the old one stays", x.many(0), 1);
        c.fine(x, "the tape is there behind 5; its first 14", x.book(14), 2);
        Check.feed(x, "cell a;cell b;");
        c.fine(x, "all of it", x.book(20), 2);
        Check.feed(x, "cell a;cell b;");
        c.fine(x, "the first 7", x.book(7), 1);
        Check.feed(x, "cell a;cell b;");
        c.fine(x, "none of it", x.book(0), 0);
        c.fine(x, "none of none", x.book(0), 0);
        c.refused(x, "one of none", x.book(1), 5);
    }

    private static void bookIsTaken() {
        c.says("Promise 10", "how many CELLS");
        MarginPlan x = new MarginPlan();
        c.fine(x, "none", Check.book(x, "secret s letters 2;page p room 3;"), 0);
        c.fine(x, "eight", Check.book(x, Texts.cells(8, "")), 8);
    }

    private static void emptyThen() {
        c.says("Promise 10", "(which is empty then, but for 5)");
        MarginPlan x = new MarginPlan();
        Check.feed(x, "cell a;cell b;cell d;cell e;");
        x.book(7);
        c.due("empty, also of what was not taken", x.feed(0, 0, 0, 0, 0), 20);
        x.book(20);
        c.due("empty by 10", x.feed(0, 0, 0, 0, 0), 20);
        x.book(21);
        x.book(-1);
        c.due("not by 5", x.feed(0, 0, 0, 0, 0), 40);
        x.rounds(0);
        c.due("empty by rounds(0)", x.feed(0, 0, 0, 0, 0), 20);
        x.rounds(1);
        c.due("empty by rounds() with 10", x.feed(0, 0, 0, 0, 0), 20);
        x.rounds(21);
        x.rounds(-1);
        x.rounds(301);
        c.due("not by 5", x.feed(0, 0, 0, 0, 0), 40);
    }

    private static void oldOneStays() {
        c.says("Promise 10", "10: the old one stays");
        Twins twins = new Twins(c, x -> {
            Check.book(x, "cell a pricks 2;cell b rubs;secret s letters 3;secret t letters 2;page p room 6;knows a s;read p odds 9;");
            Check.rounds(x, "turn 1;warder;");
            x.turn(2);
            x.mark();
            x.ill(1, true);
            x.live(5);
            x.caught();
            x.bestOrder();
            x.tray(0, 0, 2);
        });
        twins.faulty("at the first TOKEN", x -> Check.book(x, "!"), 1, 0);
        String parts = "cell d pricks 9 blind;secret u letters 9;secret v letters 8;page q room 20;page r room 0;knows d u;order d;read q odds 3;";
        twins.faulty("behind all PARTS", x -> Check.book(x, parts + "cell d;"), 3, parts.length() + 5);
        twins.faulty("at the end", x -> Check.book(x, "cell d;cell e"), 2, 13);
    }

    private static void roundsLengths() {
        c.says("Promise 11", "how many STEPS (5: above 300, too; 10)");
        MarginPlan x = Check.with("cell a;");
        Check.feed(x, Check.times("stop;     ", 29) + "     stop;");
        c.refused(x, "301 of 300", x.rounds(301), 5);
        c.fine(x, "300 of 300", x.rounds(300), 30);
        Check.feed(x, Check.times("stop;     ", 29) + "     stop;           ");
        for (int n : new int[] {-1, 301, 311, 320, 321, LEAST, MOST}) {
            c.refused(x, "rounds(" + n + ")", x.rounds(n), 5);
        }
        c.fine(x, "300 of 320", x.rounds(300), 30);
        Check.feed(x, "stop;stop;");
        c.fine(x, "the first 5", x.rounds(5), 1);
        c.fine(x, "none of none", x.rounds(0), 0);
        c.refused(x, "one of none", x.rounds(1), 5);
        c.fine(x, "the BOOK stays", x.many(0), 1);
    }

    private static void roundsStay() {
        c.says("Promise 11", "Likewise the ROUNDS");
        Twins twins = new Twins(c, x -> {
            Check.book(x, "cell a pricks 2;cell b rubs;secret s letters 3;secret t letters 2;page p room 6;knows a s;read p odds 9;");
            Check.rounds(x, "loop 3;turn 1;warder;end;damp p;");
            x.turn(2);
            x.mark();
            x.live(5);
            x.caught();
            x.bestOrder();
        });
        twins.faulty("at the first TOKEN", x -> Check.rounds(x, "!"), 1, 0);
        twins.faulty("behind many STEPS", x -> Check.rounds(x, "ill a;ill b;when full p;rub p;end;stop;end;"), 2, 39);
        twins.faulty("at the end", x -> Check.rounds(x, "ill b;loop 2;ill a;"), 2, 19);
    }

    private static void faultTold() {
        c.says("Promise 12", "Of the latest of these with STATUS 0 or 10, what 0: the FAULT (0 without one), 1: its place (NONE without).");
        MarginPlan x = new MarginPlan();
        x.book(0);
        c.due("without one", x.fault(0), 0);
        c.due("its place", x.fault(1), -1);
        c.bookFault(x, "cell a;cell a;", 3, 12);
        x.book(5);
        x.rounds(-1);
        x.rounds(301);
        c.due("5 does not count", x.fault(0), 3);
        c.due("its place", x.fault(1), 12);
        Check.rounds(x, "stop;");
        c.due("without one, of ROUNDS", x.fault(0), 0);
        c.due("its place", x.fault(1), -1);
        c.roundsFault(x, "!", 1, 0);
        Check.book(x, "cell a;");
        c.due("without one, of a BOOK", x.fault(0), 0);
        c.due("its place", x.fault(1), -1);
        c.says("Promise 12", "NONE for others, and ahead of any.");
        c.roundsFault(x, "stop; !", 1, 6);
        for (int what : new int[] {-1, 2, LEAST, MOST}) {
            c.due("fault(" + what + ")", x.fault(what), -1);
        }
        c.due("ahead of any", new MarginPlan().fault(0), -1);
        c.due("ahead of any", new MarginPlan().fault(1), -1);
        MarginPlan y = new MarginPlan();
        y.book(1);
        y.rounds(1);
        c.due("5 alone is none", y.fault(0), -1);
        c.due("5 alone is none", y.fault(1), -1);
        y.many(9);
        y.fault(0);
        c.says("Terms 5", "status(), fault(), feed(), top(), bottom() have none.");
        c.due("fault() has no STATUS", y.status(), 5);
        y.fault(9);
        y.top();
        y.bottom();
        c.due("nor have top() and bottom()", y.status(), 5);
    }

    private static void longestText() {
        c.says("Terms 1", "A BOOK is a TEXT of at most 900 bytes.");
        MarginPlan x = new MarginPlan();
        String text = "cell a;" + Check.times("order a;  ", 88) + "     cell b;";
        c.due("so long", text.length(), 899);
        c.fine(x, "899", Check.book(x, text), 2);
        c.fine(x, "900", Check.book(x, " " + text), 2);
        Check.feed(x, " " + text);
        c.refused(x, "901", x.book(901), 5);
        Check.emptyTape(x);
        c.bookFault(x, text + "!", 1, 899);
        c.bookFault(x, " " + text.substring(0, 898) + "!", 1, 899);
        c.bookFault(x, text.substring(0, 898) + "  ", 2, 900);
    }

    private static void tokensGoOn() {
        c.says("Terms 1", "TOKENS, as long as they go");
        MarginPlan x = new MarginPlan();
        c.fine(x, "none between", Check.book(x, "cell a pricks20blind rubs;cell b pricks0rubs;secret s letters1;page p room60;read p odds16;"), 2);
        c.fine(x, "20", x.cell(0, 0), 20);
        c.fine(x, "blind", x.cell(0, 1), 1);
        c.fine(x, "rubs", x.cell(0, 2), 1);
        c.fine(x, "0", x.cell(1, 0), 0);
        c.bookFault(x, "cella;", 2, 0);
        c.bookFault(x, "cell a blindrubs;", 2, 7);
        c.bookFault(x, "cell a1;", 2, 6);
        c.bookFault(x, "cell a pricks 1 2;", 2, 16);
        c.bookFault(x, "cell a;;", 2, 7);
        c.roundsFault(x, "turn1 2;", 2, 6);
        c.fine(x, "none between", Check.rounds(x, "turn12;loop3;end;"), 2);
    }

    private static void blanks() {
        c.says("Terms 1", "between them blanks (10, 32)");
        MarginPlan x = new MarginPlan();
        c.fine(x, "ahead, between and behind", Check.book(x, "\n \ncell\n\na \n;\n "), 1);
        c.fine(x, "nothing else", Check.book(x, " \n"), 0);
        c.fine(x, "in ROUNDS, too", Check.rounds(x, "\nturn\n1\n;\n"), 1);
        for (char no : new char[] {0, 1, 8, 9, 11, 12, 13, 31, 33, 127, 128, 138, 160, 255}) {
            c.bookFault(x, "cell a;" + no, 1, 7);
            c.bookFault(x, "cell" + no + "a;", 1, 4);
            c.roundsFault(x, "stop;" + no, 1, 5);
        }
    }

    private static void words() {
        c.says("Terms 1", "WORDS (small letters)");
        MarginPlan x = new MarginPlan();
        c.fine(x, "the first letter and the last", Check.book(x, "cell a;cell z;cell az;cell za;"), 4);
        c.fine(x, "all of them", Check.book(x, "cell abcdefg;cell hijklmn;cell opqrstu;cell vwxyz;"), 4);
        for (char no : new char[] {'`', '{', 'A', 'Z', '@', '[', '_', '-', 225, 250}) {
            c.bookFault(x, "cell " + no + ";", 1, 5);
            c.bookFault(x, "cell a" + no + ";", 1, 6);
        }
    }

    private static void numbers() {
        c.says("Terms 1", "NUMBERS (1 to 4 digits)");
        MarginPlan x = new MarginPlan();
        for (String number : new String[] {"9", "09", "009", "0009"}) {
            c.fine(x, "NUMBER " + number, Check.book(x, "cell a pricks " + number + ";"), 1);
            c.fine(x, "told by " + number, x.cell(0, 0), 9);
        }
        c.bookFault(x, "cell a pricks 00009;", 1, 14);
        c.bookFault(x, "cell a pricks 000000000000000000000000000000009;", 1, 14);
        c.bookFault(x, "cell a pricks 4294967297;", 1, 14);
        c.bookFault(x, "cell a pricks 9999;", 4, 14);
        c.bookFault(x, "cell a pricks /;", 1, 14);
        c.bookFault(x, "cell a pricks :;", 1, 14);
        c.bookFault(x, "cell a pricks 5/;", 1, 15);
        c.bookFault(x, "cell a pricks 5:;", 1, 15);
        c.bookFault(x, "cell a pricks -5;", 1, 14);
    }

    private static void signs() {
        c.says("Terms 1", "SIGNS ; < > =");
        MarginPlan x = new MarginPlan();
        for (char sign : new char[] {';', '<', '=', '>'}) {
            c.bookFault(x, "cell a; " + sign, 2, 8);
            c.roundsFault(x, "stop; " + sign, 2, 6);
        }
        for (char no : new char[] {':', '?', '!', '(', ',', '.'}) {
            c.bookFault(x, "cell a; " + no, 1, 8);
        }
        c.bookFault(x, "cell a <", 2, 7);
        c.bookFault(x, "cell a >", 2, 7);
        c.bookFault(x, "cell a =", 2, 7);
    }

    private static void eachPart() {
        c.says("Terms 1", "BOOK: {PART}. PART: cell NAME [pricks NUMBER] [blind] [rubs] ; or secret NAME letters NUMBER ; or page NAME room NUMBER ;"
            + " or knows NAME NAME ; or order NAME {NAME} ; or read NAME odds NUMBER ;");
        MarginPlan x = new MarginPlan();
        String[] whole = {"cell c ;", "cell c pricks 3 ;", "cell c blind ;", "cell c rubs ;", "cell c pricks 3 blind rubs ;", "secret u letters 2 ;",
            "page q room 2 ;", "knows a s ;", "order a ;", "order a b ;", "read p odds 2 ;"};
        for (String part : whole) {
            int cells = part.startsWith("cell") ? 3 : 2;
            c.fine(x, part, Check.book(x, HEAD + part), cells);
            c.fine(x, part + " and no blank", Check.book(x, HEAD + part.replace(" ;", ";") + " "), cells);
            for (String no : new String[] {"<", "=", ">", "room room", "7 7"}) {
                for (int at = part.indexOf(' '); at >= 0; at = part.indexOf(' ', at + 1)) {
                    Check.book(x, HEAD + part.substring(0, at) + " " + no + part.substring(at));
                    c.due(part + " with " + no + " at " + at, x.status(), 10);
                }
            }
        }
    }

    private static void parts() {
        c.says("Terms 1", "({ } any number of times, [ ] perhaps.)");
        MarginPlan x = new MarginPlan();
        c.fine(x, "no PART", Check.book(x, ""), 0);
        String[] told = {"", " pricks 7", " blind", " rubs", " pricks 7 blind", " pricks 7 rubs", " blind rubs", " pricks 7 blind rubs"};
        for (int i = 0; i < told.length; i++) {
            c.fine(x, "cell a" + told[i], Check.book(x, "cell a" + told[i] + ";"), 1);
            c.fine(x, "pricks", x.cell(0, 0), told[i].contains("7") ? 7 : 5);
            c.fine(x, "blind", x.cell(0, 1), told[i].contains("blind") ? 1 : 0);
            c.fine(x, "rubs", x.cell(0, 2), told[i].contains("rubs") ? 1 : 0);
        }
        c.bookFault(x, "cell a blind pricks 7;", 2, 13);
        c.bookFault(x, "cell a rubs pricks 7;", 2, 12);
        c.bookFault(x, "cell a rubs blind;", 2, 12);
        c.bookFault(x, "cell a pricks 7 pricks 7;", 2, 16);
        c.bookFault(x, "cell a blind blind;", 2, 13);
        c.bookFault(x, "cell a rubs rubs;", 2, 12);
        c.fine(x, "many PARTS", Check.book(x, HEAD + Check.times("read p odds 4;", 60)), 2);
        c.fine(x, "one CELL in an ORDER", Check.book(x, HEAD + "order b;"), 2);
        c.fine(x, "it is in it", x.orderAt(0), 1);
        c.refused(x, "alone", x.orderAt(1), 8);
        c.bookFault(x, HEAD + "order;", 2, H + 5);
        c.fine(x, "no STEP in a loop", Check.rounds(x, "loop 1;end;"), 1);
    }

    private static void names() {
        c.says("Terms 1", "NAME: a WORD of 1 to 8 letters");
        MarginPlan x = new MarginPlan();
        c.fine(x, "1 letter", Check.book(x, "cell q;"), 1);
        c.fine(x, "8 letters", Check.book(x, "cell qqqqqqqq;cell qqqqqqq;cell zzzzzzzz;"), 3);
        c.bookFault(x, "cell qqqqqqqqq;", 2, 5);
        c.bookFault(x, "cell zzzzzzzzzzzzz;", 2, 5);
        c.bookFault(x, "cell zzzzzzzzzzzzzzzzzzzzzzzzzzzzzz;", 2, 5);
        c.fine(x, "the eighth letter counts", Check.book(x, "cell abcdefgh;cell abcdefgi;order abcdefgi;"), 2);
        c.fine(x, "it is that", x.orderAt(0), 1);
        c.bookFault(x, "cell abcdefgh;order abcdefg;", 3, 20);
    }

    private static void noNames() {
        c.says("Terms 1", "that is none of cell, pricks, blind, rubs, secret, letters, page, room, knows, order, read, odds, turn, ill, move, rub, damp,"
            + " warder, when, full, all, loop, end, stop.");
        MarginPlan x = new MarginPlan();
        for (String word : NO_NAMES) {
            c.bookFault(x, "cell " + word + ";", 2, 5);
            c.bookFault(x, "secret " + word + " letters 2;", 2, 7);
            c.bookFault(x, "page " + word + " room 2;", 2, 5);
            c.bookFault(x, HEAD + "knows " + word + " s;", 2, H + 6);
            for (String other : new String[] {word.substring(0, word.length() - 1), word.substring(1), word + "s"}) {
                boolean is = java.util.Arrays.asList(NO_NAMES).contains(other);
                c.due("less or more of it: " + other, Check.book(x, "cell " + other + ";"), is ? -1 : 1);
            }
        }
        for (String word : new String[] {"knows", "full", "all", "warder", "stop"}) {
            c.roundsFault(x, "ill " + word + ";", 2, 4);
        }
        c.fine(x, "free for all: test, odd, sign", Check.book(x, "cell test;cell odd;cell sign;cell book;cell step;cell none;"), 6);
    }

    private static void oneThingAlone() {
        c.says("Terms 1", "One NAME is of one thing alone.");
        MarginPlan x = new MarginPlan();
        for (String first : THREE) {
            for (String second : THREE) {
                int at = first.length() + second.indexOf('x');
                c.bookFault(x, first + second, 3, at);
            }
        }
    }

    private static void mostCells() {
        c.says("Terms 1", "CELLS, at most 8");
        MarginPlan x = new MarginPlan();
        c.fine(x, "eight", Check.book(x, Texts.cells(8, " pricks 3 rubs")), 8);
        c.fine(x, "the eighth", x.cell(7, 0), 3);
        c.fine(x, "it rubs", x.cell(7, 2), 1);
        c.refused(x, "no ninth", x.cell(8, 0), 2);
        c.bookFault(x, Texts.cells(9, ""), 6, 56);
        c.fine(x, "the old one stays", x.cell(0, 0), 3);
    }

    private static void prickNumbers() {
        c.says("Terms 1", "so many PRICKS a TURN (0 to 20; 5 without)");
        MarginPlan x = new MarginPlan();
        c.fine(x, "0", Check.book(x, "cell a pricks 0;cell b pricks 20;cell d;"), 3);
        c.fine(x, "the least", x.cell(0, 0), 0);
        c.fine(x, "the most", x.cell(1, 0), 20);
        c.fine(x, "without", x.cell(2, 0), 5);
        c.bookFault(x, "cell a pricks 21;", 4, 14);
        c.bookFault(x, "cell a pricks;", 2, 13);
    }

    private static void blindAndRubs() {
        c.says("Terms 1", "BLIND (cannot read) or not, RUBS or not.");
        MarginPlan x = new MarginPlan();
        Check.book(x, "cell a blind rubs;cell b;cell c blind;cell d rubs;" + Texts.cells(8, " blind rubs").substring(4 * 18));
        int[] both = {11, 0, 10, 1, 11, 11, 11, 11};
        for (int cell = 0; cell < 8; cell++) {
            c.fine(x, "BLIND, RUBS of " + cell, 10 * x.cell(cell, 1) + x.cell(cell, 2), both[cell]);
        }
        Check.book(x, Texts.cells(8, ""));
        for (int cell = 0; cell < 8; cell++) {
            c.fine(x, "no longer", 10 * x.cell(cell, 1) + x.cell(cell, 2), 0);
        }
    }

    private static void mostSecrets() {
        c.says("Terms 1", "SECRETS, at most 6");
        MarginPlan x = new MarginPlan();
        c.fine(x, "six", Check.book(x, Texts.secrets(6, 7)), 0);
        c.fine(x, "six", x.many(1), 6);
        c.fine(x, "the sixth", x.secret(5), 7);
        c.refused(x, "no seventh", x.secret(6), 2);
        c.bookFault(x, Texts.secrets(7, 7), 6, Texts.secrets(6, 7).length());
    }

    private static void letterNumbers() {
        c.says("Terms 1", "LETTERS (1 to 20)");
        MarginPlan x = new MarginPlan();
        c.fine(x, "1 and 20", Check.book(x, "secret s letters 1;secret t letters 20;"), 0);
        c.fine(x, "the least", x.secret(0), 1);
        c.fine(x, "the most", x.secret(1), 20);
        c.bookFault(x, "secret s letters 0;", 4, 17);
        c.bookFault(x, "secret s letters 21;", 4, 17);
        c.bookFault(x, "secret s;", 2, 8);
    }

    private static void mostPages() {
        c.says("Terms 1", "PAGES, at most 6");
        MarginPlan x = new MarginPlan();
        c.fine(x, "six", Check.book(x, Texts.pages(6, 7)), 0);
        c.fine(x, "six", x.many(2), 6);
        c.fine(x, "the sixth", x.page(5, 0), 7);
        c.refused(x, "no seventh", x.page(6, 0), 2);
        c.bookFault(x, Texts.pages(7, 7), 6, Texts.pages(6, 7).length());
    }

    private static void roomNumbers() {
        c.says("Terms 1", "ROOM for so many PRICKS (0 to 60)");
        MarginPlan x = new MarginPlan();
        c.fine(x, "0 and 60", Check.book(x, "page p room 0;page q room 60;"), 0);
        c.fine(x, "the least", x.page(0, 0), 0);
        c.fine(x, "the most", x.page(1, 0), 60);
        c.bookFault(x, "page p room 61;", 4, 12);
        c.bookFault(x, "page p;", 2, 6);
    }

    private static void oddsNumbers() {
        c.says("Terms 1", "a PAGE is read by the WARDER by so many sixteenths a DAY (0 to 16; 0 without; told again: the latest)");
        MarginPlan x = new MarginPlan();
        c.fine(x, "0, 16, without", Check.book(x, Texts.pages(3, 5) + "read pa odds 0;read pb odds 16;"), 0);
        c.fine(x, "the least", x.page(0, 1), 0);
        c.fine(x, "the most", x.page(1, 1), 16);
        c.fine(x, "without", x.page(2, 1), 0);
        c.bookFault(x, "page p room 4;read p odds 17;", 4, 26);
        c.fine(x, "told again", Check.book(x, Texts.pages(2, 5) + "read pa odds 9;read pb odds 7;read pa odds 16;read pa odds 2;"), 0);
        c.fine(x, "the latest", x.page(0, 1), 2);
        c.fine(x, "of that PAGE", x.page(1, 1), 7);
        c.fine(x, "a BOOK anew", Check.book(x, Texts.pages(2, 5)), 0);
        c.fine(x, "without", x.page(0, 1), 0);
    }

    private static void knowing() {
        c.says("Terms 1", "KNOWS: a CELL knows a SECRET at first.");
        MarginPlan x = new MarginPlan();
        String six = Texts.cells(8, "") + Texts.secrets(6, 2);
        c.fine(x, "the last of each", Check.book(x, six + "knows h sf;knows a sa;knows a sf;"), 8);
        c.fine(x, "h", x.cell(7, 3), 32);
        c.fine(x, "a", x.cell(0, 3), 33);
        c.fine(x, "g", x.cell(6, 3), 0);
        c.fine(x, "told twice", Check.book(x, six + "knows h sf;knows h sf;"), 8);
        c.fine(x, "h", x.cell(7, 3), 32);
        c.fine(x, "BLIND ones, too", Check.book(x, "cell a blind;secret s letters 2;knows a s;"), 1);
        c.fine(x, "a", x.cell(0, 3), 1);
    }

    private static void orderOnce() {
        c.says("Terms 1", "each CELL once at most");
        MarginPlan x = new MarginPlan();
        String eight = Texts.cells(8, "");
        c.fine(x, "all eight once", Check.book(x, eight + "order h g f e d c b a;"), 8);
        c.fine(x, "in the ORDER", x.many(3), 8);
        c.fine(x, "the last", x.orderAt(7), 0);
        c.bookFault(x, eight + "order h g f e d c b a h;", 5, 56 + 22);
        c.bookFault(x, eight + "order h g f e d c b a a;", 5, 56 + 22);
        c.bookFault(x, eight + "order a a;", 5, 56 + 8);
    }

    private static void orderLatest() {
        c.says("Terms 1", "(told again: the latest;");
        MarginPlan x = new MarginPlan();
        c.fine(x, "longer, then shorter", Check.book(x, "cell a;cell b;cell d;order d b a;order b;"), 3);
        c.fine(x, "in the ORDER", x.many(3), 1);
        c.fine(x, "b", x.orderAt(0), 1);
        c.fine(x, "shorter, then longer", Check.book(x, "cell a;cell b;order b;cell d;order d b;"), 3);
        c.fine(x, "in the ORDER", x.many(3), 2);
        c.fine(x, "d", x.orderAt(0), 2);
        c.fine(x, "b", x.orderAt(1), 1);
        c.refused(x, "a is not in it", x.cell(0, 4), 8);
    }

    private static void orderOfAll() {
        c.says("Terms 1", "without one: all there are in the end, by numbers)");
        MarginPlan x = new MarginPlan();
        c.fine(x, "without", Check.book(x, Texts.cells(8, "")), 8);
        c.fine(x, "in the ORDER", x.many(3), 8);
        for (int k = 0; k < 8; k++) {
            c.fine(x, "place " + k, x.orderAt(k), k);
        }
        c.fine(x, "with one; a CELL behind it is not in it", Check.book(x, "cell a;order a;cell b;"), 2);
        c.fine(x, "in the ORDER", x.many(3), 1);
        c.fine(x, "a BOOK anew without", Check.book(x, "cell a;cell b;"), 2);
        c.fine(x, "in the ORDER", x.many(3), 2);
        c.fine(x, "no CELLS", Check.book(x, "page p room 3;"), 0);
        c.fine(x, "in the ORDER", x.many(3), 0);
    }

    private static void toldAhead() {
        c.says("Terms 1", "All are numbered as they stand; what a PART names must be told ahead.");
        MarginPlan x = new MarginPlan();
        c.fine(x, "among one another", Check.book(x, "page pa room 1;cell a pricks 1;secret s letters 1;page pb room 2;secret t letters 2;cell b pricks 2;"), 2);
        c.fine(x, "CELLS", 10 * x.cell(0, 0) + x.cell(1, 0), 12);
        c.fine(x, "SECRETS", 10 * x.secret(0) + x.secret(1), 12);
        c.fine(x, "PAGES", 10 * x.page(0, 0) + x.page(1, 0), 12);
        c.bookFault(x, "secret s letters 2;knows a s;cell a;", 3, 25);
        c.bookFault(x, "cell a;knows a s;secret s letters 2;", 3, 15);
        c.bookFault(x, "cell a;order a b;cell b;", 3, 15);
        c.bookFault(x, "read p odds 2;page p room 2;", 3, 5);
        Check.book(x, "cell old;secret s letters 2;page p room 2;");
        c.bookFault(x, "secret s letters 2;knows old s;", 3, 25);
    }

    private static void firstFault() {
        c.says("Terms 1", "FAULTS, the first along the text");
        MarginPlan x = new MarginPlan();
        c.bookFault(x, "cell a pricks 21; !", 4, 14);
        c.bookFault(x, "cell a;cell a pricks 21;", 3, 12);
        c.bookFault(x, "cell pricks 21;", 2, 5);
        c.bookFault(x, HEAD + "order a a x;", 5, H + 8);
        c.bookFault(x, HEAD + "order a x a;", 3, H + 8);
        c.bookFault(x, Texts.cells(9, " pricks 21"), 4, 14);
        c.bookFault(x, Texts.cells(8, "") + "cell a;", 6, 56);
        c.roundsFault(x, "turn 0; !", 4, 5);
        c.roundsFault(x, "turn ! 0;", 1, 5);
    }

    private static void leastKind() {
        c.says("Terms 1", "(of one TOKEN the least kind)");
        MarginPlan x = new MarginPlan();
        c.bookFault(x, "12345", 1, 0);
        c.bookFault(x, "cell 12345;", 1, 5);
        c.bookFault(x, "cell a 12345;", 1, 7);
        c.bookFault(x, "cell a pricks 99999;", 1, 14);
        c.bookFault(x, "cell a 21;", 2, 7);
        c.bookFault(x, Texts.cells(8, "") + "secret cell", 2, 56 + 7);
        c.bookFault(x, Texts.cells(8, "") + "order a cell", 2, 56 + 8);
        c.bookFault(x, HEAD + "order a abcdefghi;", 2, H + 8);
        Check.book(x, HEAD);
        c.roundsFault(x, Check.times("stop;", 30) + "12345", 1, 150);
        c.roundsFault(x, Check.times("stop;", 30) + "knows", 2, 150);
        c.roundsFault(x, "loop 1;loop 1;loop 1;" + Check.times("stop;", 27) + "when", 6, 21 + 135);
    }

    private static void fault1() {
        c.says("Terms 1", "1 no TOKEN begins so (a NUMBER of 5 digits and more: at its first).");
        MarginPlan x = new MarginPlan();
        c.bookFault(x, "#", 1, 0);
        c.bookFault(x, "cell a;#", 1, 7);
        c.bookFault(x, "cell a;  #cell", 1, 9);
        c.bookFault(x, "cell a pricks  10000;", 1, 15);
        c.bookFault(x, "cell a pricks 123456789;", 1, 14);
        c.roundsFault(x, "turn 00001;", 1, 5);
    }

    private static void fault2() {
        c.says("Terms 1", "2 it can't stand there");
        MarginPlan x = new MarginPlan();
        String[] where = {"@", "cell @", "cell c@", "cell c pricks @", "cell c pricks 3@", "cell c blind@", "cell c rubs@", "secret @", "secret u @",
            "secret u letters @", "secret u letters 2@", "page @", "page q @", "page q room @", "page q room 2@", "knows @", "knows a @",
            "knows a s@", "order @", "order a @", "read @", "read p @", "read p odds @", "read p odds 2@"};
        String[] what = {" <", " cell", " turn", " letters", " 7", " pricks"};
        for (String w : where) {
            for (String t : what) {
                boolean can = t.equals(" 7") && w.matches(".*(pricks|letters|room|odds) @")
                    || t.equals(" cell") && w.equals("@") || t.equals(" letters") && w.equals("secret u @") || t.equals(" pricks") && w.equals("cell c@");
                if (!can) {
                    String text = HEAD + w.replace("@", t);
                    c.bookFault(x, text, 2, text.lastIndexOf(t) + 1);
                }
            }
        }
    }

    private static void faultAtTheEnd() {
        c.says("Terms 1", "(the end: the text's length;");
        MarginPlan x = new MarginPlan();
        String[] whole = {"cell c pricks 3 blind rubs ;", "secret u letters 2 ;", "page q room 2 ;", "knows a s ;", "order a b ;", "read p odds 2 ;"};
        for (String part : whole) {
            for (int at = 0; at < part.length(); at++) {
                if (part.charAt(at) == ' ') {
                    String text = HEAD + part.substring(0, at);
                    c.bookFault(x, text, 2, text.length());
                    c.bookFault(x, text + " \n ", 2, text.length() + 3);
                }
            }
        }
        // The text's length is what was asked for, not what the tape has.
        Check.feed(x, "cell a; cell b; cell d;");
        c.refused(x, "book(12)", x.book(12), 10);
        c.due("fault(0)", x.fault(0), 2);
        c.due("fault(1)", x.fault(1), 12);
    }

    /** What stands on the tape behind the first n bytes is no part of the TEXT. */
    private static void cutAnywhere() {
        c.says("Promise 10", "The first n bytes of the tape");
        String text = "cell abcdef pricks 0012 blind rubs;secret s letters 12;page p room 34;read p odds 16;knows abcdef s;order abcdef;";
        for (int n = 0; n <= text.length(); n++) {
            MarginPlan x = new MarginPlan();
            MarginPlan y = new MarginPlan();
            Check.feed(x, text + "0".repeat(20));
            int cells = x.book(n);
            c.due("book(" + n + ")", cells, Check.book(y, text.substring(0, n)));
            c.due("fault(0) of " + n, x.fault(0), y.fault(0));
            c.due("fault(1) of " + n, x.fault(1), y.fault(1));
            c.due("PRICKS of " + n, x.cell(0, 0), y.cell(0, 0));
        }
        MarginPlan full = new MarginPlan();
        for (String last : new String[] {"1", "a", ";", "<", "!"}) {
            c.bookFault(full, " ".repeat(899) + last, last.equals("!") ? 1 : 2, 899);
        }
        c.fine(full, "900 blanks", Check.book(full, " ".repeat(900)), 0);
    }

    private static void fault2LongWord() {
        c.says("Terms 1", "a WORD of 9 letters and more where a NAME must stand");
        MarginPlan x = new MarginPlan();
        for (String word : new String[] {"abcdefghi", "cellcellcell", "abcdefghijklmnopqrstuvwxyzabcdefghijklmnopqrstuvwxyz"}) {
            c.bookFault(x, "cell " + word + ";", 2, 5);
            c.bookFault(x, "secret " + word + " letters 2;", 2, 7);
            c.bookFault(x, "page " + word + " room 2;", 2, 5);
            c.bookFault(x, HEAD + "knows " + word + " s;", 2, H + 6);
            c.bookFault(x, HEAD + "knows a " + word + ";", 2, H + 8);
            c.bookFault(x, HEAD + "order a " + word + ";", 2, H + 8);
            c.bookFault(x, HEAD + "read " + word + " odds 2;", 2, H + 5);
            Check.book(x, HEAD);
            c.roundsFault(x, "ill " + word + ";", 2, 4);
        }
    }

    private static void fault3() {
        c.says("Terms 1", "3 a new NAME that is taken; a NAME that is no such one told ahead.");
        MarginPlan x = new MarginPlan();
        String[] taken = {"a", "b", "s", "p"};
        for (String name : taken) {
            c.bookFault(x, HEAD + "cell " + name + ";", 3, H + 5);
            c.bookFault(x, HEAD + "secret " + name + " letters 2;", 3, H + 7);
            c.bookFault(x, HEAD + "page " + name + " room 2;", 3, H + 5);
        }
        for (String name : new String[] {"s", "p", "aa"}) {
            c.bookFault(x, HEAD + "knows " + name + " s;", 3, H + 6);
            c.bookFault(x, HEAD + "order b " + name + ";", 3, H + 8);
        }
        for (String name : new String[] {"a", "p", "ss"}) {
            c.bookFault(x, HEAD + "knows a " + name + ";", 3, H + 8);
        }
        for (String name : new String[] {"a", "s", "pp"}) {
            c.bookFault(x, HEAD + "read " + name + " odds 2;", 3, H + 5);
        }
    }

    private static void fault4() {
        c.says("Terms 1", "4 a NUMBER that can't be.");
        MarginPlan x = new MarginPlan();
        for (String number : new String[] {"21", "0021", "9999"}) {
            c.bookFault(x, "cell a pricks " + number + ";", 4, 14);
            c.bookFault(x, "secret s letters " + number + ";", 4, 17);
        }
        c.bookFault(x, "secret s letters 0000;", 4, 17);
        c.bookFault(x, "page p room 9999;", 4, 12);
        c.bookFault(x, HEAD + "read p odds 9999;", 4, H + 12);
    }

    private static void fault5() {
        c.says("Terms 1", "5 a CELL twice in an ORDER (at its NAME).");
        MarginPlan x = new MarginPlan();
        c.bookFault(x, HEAD + "order a b  a;", 5, H + 11);
        c.bookFault(x, HEAD + "order b b", 5, H + 8);
        c.fine(x, "once in each of two", Check.book(x, HEAD + "order a b;order b a;"), 2);
        c.bookFault(x, HEAD + "order a;order b b;", 5, H + 16);
    }

    private static void fault6() {
        c.says("Terms 1", "6 a ninth cell, a seventh secret, page (at that WORD).");
        MarginPlan x = new MarginPlan();
        c.bookFault(x, Texts.cells(8, "") + " cell", 6, 57);
        c.bookFault(x, Texts.cells(8, "") + "cell a", 6, 56);
        String secrets = Texts.secrets(6, 2);
        c.bookFault(x, secrets + "secret", 6, secrets.length());
        String pages = Texts.pages(6, 2);
        c.bookFault(x, pages + "page", 6, pages.length());
        c.fine(x, "all the most there are", Check.book(x, Texts.cells(8, "") + secrets + pages), 8);
        c.fine(x, "SECRETS", x.many(1), 6);
        c.fine(x, "PAGES", x.many(2), 6);
    }

    private static void inPlace() {
        c.says("Terms 1", "A BOOK that is taken is there in place of that ahead; it is TURN 0, no PRICKS are in it, there are no ROUNDS.");
        MarginPlan x = Check.with("cell a pricks 9;cell b blind rubs;secret s letters 3;page p room 8;page q room 9;knows a s;read p odds 7;order b a;");
        Check.rounds(x, "stop;");
        x.turn(3);
        x.tell(1, 0);
        x.ill(0, true);
        x.damp(1, true);
        x.watch(0, 3);
        c.fine(x, "another BOOK", Check.book(x, "cell a;cell b;secret s letters 4;page p room 5;page q room 6;"), 2);
        for (int what = 3; what < 9; what++) {
            c.fine(x, "many(" + what + ")", x.many(what), what == 3 ? 2 : 0);
        }
        for (int cell = 0; cell < 2; cell++) {
            int[] due = {5, 0, 0, 0, cell, 0};
            for (int what = 0; what < 6; what++) {
                c.fine(x, "cell(" + cell + ", " + what + ")", x.cell(cell, what), due[what]);
            }
            int[] page = {5 + cell, 0, 5 + cell, 0};
            for (int what = 0; what < 4; what++) {
                c.fine(x, "page(" + cell + ", " + what + ")", x.page(cell, what), page[what]);
            }
        }
        c.fine(x, "the first of the ORDER has the book", x.next(), 0);
        c.refused(x, "no ROUNDS", x.live(0), 8);
        c.fine(x, "nothing in place of it", Check.book(x, ""), 0);
        c.fine(x, "no SECRETS", x.many(1), 0);
        c.refused(x, "no PAGES", x.page(0, 0), 2);
    }
}
