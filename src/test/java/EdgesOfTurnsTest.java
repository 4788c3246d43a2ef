/** The edges of Terms 2, sentence by sentence: what comes of a TURN, and of what is done. */
public final class EdgesOfTurnsTest {
    private static final Check c = new Check("EdgesOfTurnsTest");

    public static void main(String[] args) {
        stands();
        free();
        shutPages();
        firstAtFirst();
        passedOver();
        withNothing();
        theBookStays();
        behindThatPlace();
        manyAtOnce();
        learningAlone();
        theLargest();
        readsUnlessBlind();
        readsWhatStands();
        rubsTheFirst();
        rubsWhatIsNew();
        rubsOpenPages();
        rubsNotBlind();
        rubbedOut();
        pricksWhatItKnows();
        pricksWhatStandsNowhere();
        somethingFree();
        theMost();
        asManyAsLack();
        asAreFree();
        asItHasLeft();
        onOnePage();
        mostTurns();
        rub();
        damp();
        ill();
        move();
        tell();
        c.end();
    }

    private static int dots(MarginPlan x, int page) {
        int all = 0;
        for (int secret = 0; secret < x.many(1); secret++) {
            all = all * 100 + x.pricks(page, secret);
        }
        return all;
    }

    private static void stands() {
        c.says("Terms 2", "A SECRET is on a PAGE by so many PRICKS, of that SECRET, from none to all its LETTERS: it STANDS there if all are.");
        MarginPlan x = Check.with("cell a pricks 1;secret s letters 2;secret t letters 1;page p room 60;knows a s;knows a t;");
        c.fine(x, "none", x.pricks(0, 0), 0);
        c.fine(x, "none stands", x.page(0, 3), 0);
        x.turn(1);
        c.fine(x, "all but one", x.pricks(0, 0), 1);
        c.fine(x, "it stands not", x.page(0, 3), 0);
        x.turn(1);
        c.fine(x, "all", x.pricks(0, 0), 2);
        c.fine(x, "it stands", x.page(0, 3), 1);
        x.turn(1);
        c.fine(x, "one of one", x.pricks(0, 1), 1);
        c.fine(x, "both stand", x.page(0, 3), 3);
        x.turn(9);
        c.fine(x, "no more than all", dots(x, 0), 201);
        MarginPlan most = Check.with(Texts.cells(1, " pricks 20") + Texts.secrets(6, 20) + Texts.pages(2, 60) + Texts.knows('a', 6));
        most.turn(5);
        c.fine(most, "none of the sixth", most.page(1, 3), 24);
        most.turn(1);
        c.fine(most, "the sixth of 20 LETTERS", most.page(1, 3), 56);
        c.fine(most, "120 PRICKS", most.many(5), 120);
    }

    private static void free() {
        c.says("Terms 2", "FREE of a PAGE: its ROOM less all PRICKS on it.");
        MarginPlan x = Check.with("cell a pricks 4;secret s letters 3;secret t letters 3;page p room 6;page q room 0;knows a s;knows a t;");
        c.fine(x, "all", x.page(0, 2), 6);
        c.fine(x, "nothing of no ROOM", x.page(1, 2), 0);
        x.turn(1);
        c.fine(x, "less those of both", x.page(0, 2), 2);
        x.turn(1);
        c.fine(x, "nothing", x.page(0, 2), 0);
        x.rub(0);
        c.fine(x, "all again", x.page(0, 2), 6);
        x.turn(1);
        x.damp(0, true);
        c.fine(x, "of a SHUT one, too", x.page(0, 2), 2);
    }

    private static void shutPages() {
        c.says("Terms 2", "SHUT pages can't be read, or pricked.");
        MarginPlan x = Check.with("cell a pricks 9;cell b pricks 0;secret s letters 3;page p room 6;page q room 2;knows a s;");
        x.damp(0, true);
        x.turn(1);
        c.fine(x, "not pricked", x.pricks(0, 0), 0);
        c.fine(x, "the other is", x.pricks(1, 0), 2);
        x.damp(0, false);
        x.turn(2);
        c.fine(x, "pricked", x.pricks(0, 0), 3);
        x.damp(0, true);
        x.turn(1);
        c.fine(x, "not read", x.cell(1, 3), 0);
        x.damp(0, false);
        x.turn(2);
        c.fine(x, "read", x.cell(1, 3), 1);
    }

    private static void firstAtFirst() {
        c.says("Terms 2", "the book is in the hands of the next CELL of the ORDER (the first at first)");
        MarginPlan x = Check.with("cell a pricks 1;cell b pricks 2;cell d pricks 3;secret s letters 20;page p room 60;knows a s;knows b s;knows d s;order d a b;");
        int[] made = {3, 1, 2, 3};
        int all = 0;
        for (int i = 0; i < made.length; i++) {
            x.turn(1);
            all += made[i];
            c.fine(x, "by TURN " + (i + 1), x.many(5), all);
        }
    }

    private static void passedOver() {
        c.says("Terms 2", "CELLS that are ILL are passed over");
        MarginPlan x = Check.with("cell a;cell b;cell d;cell e;");
        x.ill(0, true);
        c.fine(x, "the first", x.next(), 1);
        x.ill(1, true);
        x.ill(2, true);
        c.fine(x, "three", x.next(), 3);
        x.turn(1);
        c.fine(x, "over the end, three", x.next(), 3);
        x.ill(0, false);
        c.fine(x, "WELL again", x.next(), 0);
        x.turn(1);
        x.ill(3, true);
        c.fine(x, "over the end to itself", x.next(), 0);
    }

    private static void withNothing() {
        c.says("Terms 2", "(if all are, or there is no CELL, the TURN goes by with nothing, and the book stays)");
        MarginPlan x = Check.with("cell a pricks 4;secret s letters 3;page p room 9;knows a s;");
        x.ill(0, true);
        c.fine(x, "all are", x.turn(1), 1);
        c.fine(x, "more TURNS", x.turn(99), 100);
        c.fine(x, "nothing", x.many(6), 0);
        x.ill(0, false);
        c.fine(x, "WELL", x.turn(1), 101);
        c.fine(x, "something", x.many(6), 3);
        MarginPlan out = Check.with("cell a pricks 4;cell b;secret s letters 3;page p room 9;knows a s;knows b s;order a;");
        out.ill(0, true);
        c.fine(out, "all of the ORDER are", out.turn(2), 2);
        c.fine(out, "nothing", out.many(6), 0);
        MarginPlan none = Check.with("secret s letters 3;page p room 9;");
        c.fine(none, "no CELL", none.turn(1), 1);
        c.fine(none, "no CELL", none.turn(99), 100);
        MarginPlan nothing = new MarginPlan();
        c.fine(nothing, "a BOOK of nothing", nothing.turn(99), 99);
    }


    private static void theBookStays() {
        c.says("Terms 2", "and the book stays");
        for (int turns = 1; turns < 9; turns++) {
            MarginPlan x = Check.with("cell a;cell b;cell d;");
            x.turn(2);
            for (int cell = 0; cell < 3; cell++) {
                x.ill(cell, true);
            }
            x.turn(turns);
            for (int cell = 0; cell < 3; cell++) {
                x.ill(cell, false);
            }
            c.fine(x, "behind " + turns + " TURNS", x.next(), 2);
        }
    }

    private static void behindThatPlace() {
        c.says("Terms 2", "The next TURN goes on behind that CELL's place.");
        MarginPlan x = Check.with("cell a;cell b;cell d;cell e;");
        x.ill(1, true);
        x.turn(2);
        x.ill(1, false);
        c.fine(x, "b was passed over; behind d is e", x.next(), 3);
        x.turn(1);
        c.fine(x, "behind the last is the first", x.next(), 0);
        MarginPlan one = Check.with("cell a;");
        one.turn(1);
        c.fine(one, "one alone, round and round", one.next(), 0);
        c.says("Terms 1", "ORDER: the CELLS to which the book goes, one after the other, round and round");
        MarginPlan eight = Check.with(Texts.cells(8, "") + "order h g f e d c b a;");
        for (int i = 0; i < 20; i++) {
            c.fine(eight, "the CELL of TURN " + i, eight.next(), 7 - i % 8);
            eight.turn(1);
        }
    }

    /** One call of many TURNS and many calls of one come to the same, also where the book is when CELLS are WELL again. */
    private static void manyAtOnce() {
        c.says("Promise 22", "So many TURNS (1 to 99): the TURN then");
        String text = Texts.cells(5, " pricks 1") + Texts.secrets(2, 4) + Texts.pages(2, 5) + Texts.knows('a', 2);
        for (int ill = 0; ill < 32; ill++) {
            for (int turns : new int[] {1, 2, 3, 4, 5, 6, 7, 40, 41, 42, 43, 44, 97, 98, 99}) {
                MarginPlan x = Check.with(text);
                MarginPlan y = Check.with(text);
                x.turn(1);
                y.turn(1);
                sick(x, ill, true);
                sick(y, ill, true);
                for (int i = 0; i < turns; i++) {
                    y.turn(1);
                }
                c.fine(x, turns + " at once", x.turn(turns), 1 + turns);
                sick(x, ill, false);
                sick(y, ill, false);
                c.due("the CELL then, ILL were " + ill + ", TURNS " + turns, x.next(), y.next());
                c.due("PRICKS made", x.many(6), y.many(6));
                c.due("known by the last", x.cell(4, 3), y.cell(4, 3));
            }
        }
    }

    /** TURNS in which all only learn, the last of them rubbing out: that is not yet the end of what comes. */
    private static void learningAlone() {
        c.says("Promise 22", "So many TURNS (1 to 99): the TURN then");
        String text = "cell a pricks 9;cell b pricks 9;cell d pricks 0 rubs;secret s letters 3;secret t letters 4;page p room 3;page q room 4;knows a s;knows b t;";
        for (int turns = 3; turns < 12; turns++) {
            MarginPlan x = Check.with(text);
            MarginPlan y = Check.with(text);
            ahead(x);
            ahead(y);
            c.fine(x, "PRICKS ahead", x.many(6), 7);
            for (int i = 0; i < turns; i++) {
                y.turn(1);
            }
            c.fine(x, "FREE of p in " + turns, x.roomIn(0, turns), y.page(0, 2));
            c.fine(x, turns + " at once", x.turn(turns), 3 + turns);
            c.fine(x, "PRICKS", x.many(6), y.many(6));
            c.fine(x, "FREE of p", x.page(0, 2), y.page(0, 2));
            c.fine(x, "the CELL then", x.next(), y.next());
        }
        MarginPlan x = Check.with(text);
        ahead(x);
        x.turn(4);
        c.fine(x, "a, b and d learned, d rubbed out s, and a pricked it anew", x.many(6), 10);
    }

    /** a made s on p, b made t on q; neither could read the other's, and d none. a has the book next. */
    private static void ahead(MarginPlan x) {
        x.ill(2, true);
        x.turn(1);
        x.damp(0, true);
        x.turn(1);
        x.damp(1, true);
        x.ill(2, false);
        x.turn(1);
        x.damp(0, false);
        x.damp(1, false);
    }

    private static void theLargest() {
        c.says("Terms 1", "CELLS, at most 8");
        MarginPlan x = Check.with(Texts.cells(8, " rubs") + Texts.secrets(6, 20) + Texts.pages(6, 60) + Texts.knows('a', 6)
            + "knows h sf;knows h sa;order h g f e d c b a;");
        for (int i = 1; i <= 10; i++) {
            c.fine(x, "99 TURNS more", x.turn(99), 99 * i);
        }
        int all = 0;
        for (int page = 0; page < 6; page++) {
            all |= x.page(page, 3);
        }
        c.due("each stands", all, 63);
        for (int cell = 0; cell < 8; cell++) {
            c.fine(x, "all is known by " + cell, x.cell(cell, 3), 63);
            x.ill(cell, true);
        }
        c.fine(x, "all are ILL", x.turn(99), 1089);
        MarginPlan small = Check.with("cell a;cell b rubs;secret s letters 1;page p room 0;" + "knows a s;");
        c.fine(small, "nothing can be pricked", small.turn(9), 9);
        c.fine(small, "nothing", small.many(6), 0);
    }

    private static void sick(MarginPlan x, int set, boolean is) {
        for (int cell = 0; cell < 5; cell++) {
            if ((set >> cell & 1) != 0) {
                x.ill(cell, is);
            }
        }
    }

    private static void readsUnlessBlind() {
        c.says("Terms 2", "It READS, unless it is BLIND");
        MarginPlan x = Check.with("cell a pricks 9;cell b blind;cell d;secret s letters 3;page p room 9;knows a s;");
        x.turn(2);
        c.fine(x, "the BLIND one not", x.cell(1, 3), 0);
        x.turn(1);
        c.fine(x, "the other", x.cell(2, 3), 1);
        x.turn(99);
        c.fine(x, "the BLIND one never", x.cell(1, 3), 0);
    }

    private static void readsWhatStands() {
        c.says("Terms 2", "it KNOWS each SECRET that STANDS on a PAGE that is not SHUT");
        MarginPlan x = Check.with("cell a pricks 2;cell b pricks 0;secret s letters 3;page p room 9;knows a s;");
        x.turn(2);
        c.fine(x, "not all LETTERS: not known", x.cell(1, 3), 0);
        x.turn(2);
        c.fine(x, "all: known", x.cell(1, 3), 1);
        MarginPlan all = Check.with(Texts.cells(8, " pricks 20") + Texts.secrets(6, 3) + Texts.pages(6, 3) + Texts.knows('a', 6));
        all.turn(1);
        c.fine(all, "six on six PAGES", all.many(5), 18);
        all.damp(2, true);
        all.turn(1);
        c.fine(all, "all but that on the SHUT one", all.cell(1, 3), 63 - 4);
        all.damp(2, false);
        all.turn(6);
        c.fine(all, "the eighth all six", all.cell(7, 3), 63);
        MarginPlan own = Check.with("cell a pricks 3;secret s letters 3;secret t letters 3;page p room 9;knows a s;");
        own.turn(3);
        c.fine(own, "it forgets nothing", own.cell(0, 3), 1);
        own.rub(0);
        own.turn(1);
        c.fine(own, "it forgets nothing", own.cell(0, 3), 1);
    }

    private static final String RUBBING = "cell a pricks 20;cell b pricks 0 rubs;secret s letters 2;secret t letters 3;secret u letters 4;";

    private static void rubsTheFirst() {
        c.says("Terms 2", "of the first PAGE that is not SHUT on which SECRETS STAND that it did not know ahead of this TURN the first such SECRET is rubbed out");
        MarginPlan x = Check.with(RUBBING + "page p room 9;knows a s;knows a t;knows a u;");
        x.turn(1);
        c.fine(x, "all three stand", x.page(0, 3), 7);
        x.turn(1);
        c.fine(x, "the first alone goes", dots(x, 0), 304);
        c.fine(x, "it knows all", x.cell(1, 3), 7);
        MarginPlan two = Check.with(RUBBING + "page p room 4;page q room 9;knows a s;knows a t;knows a u;");
        two.turn(1);
        // s and two of t are on p, u is on q; the rest of t is pricked nowhere else.
        c.fine(two, "on p", dots(two, 0), 20200);
        c.fine(two, "on q", dots(two, 1), 4);
        two.turn(1);
        c.fine(two, "of p s goes", dots(two, 0), 200);
        c.fine(two, "not of q", dots(two, 1), 4);
        MarginPlan later = Check.with(RUBBING + "page p room 1;page q room 9;knows a u;knows a s;");
        later.turn(2);
        c.fine(later, "on the first page nothing stands", dots(later, 0), 10000);
        c.fine(later, "u goes from q", dots(later, 1), 0);
    }

    private static void rubsWhatIsNew() {
        c.says("Terms 2", "that it did not know ahead of this TURN");
        MarginPlan x = Check.with(RUBBING + "page p room 9;knows a s;knows a t;knows a u;knows b s;");
        x.turn(2);
        c.fine(x, "the first it did not know", dots(x, 0), 20004);
        x = Check.with(RUBBING + "page p room 9;knows a s;knows a t;knows a u;knows b s;knows b t;knows b u;");
        x.turn(2);
        c.fine(x, "all known: nothing goes", dots(x, 0), 20304);
        x = Check.with(RUBBING + "page p room 2;page q room 9;knows a s;knows a u;knows b s;");
        x.turn(1);
        c.fine(x, "s on p", x.page(0, 3), 1);
        c.fine(x, "u on q", x.page(1, 3), 4);
        x.turn(1);
        c.fine(x, "p has only what it knew", x.page(0, 3), 1);
        c.fine(x, "u goes", x.page(1, 3), 0);
        x = Check.with(RUBBING + "page p room 9;knows a s;");
        x.turn(1);
        x.tell(1, 0);
        x.turn(1);
        c.fine(x, "what it was told ahead stays", dots(x, 0), 20000);
    }

    private static void rubsOpenPages() {
        c.says("Terms 2", "of the first PAGE that is not SHUT on which SECRETS STAND");
        MarginPlan x = Check.with(RUBBING + "page p room 2;page q room 9;knows a s;");
        x.turn(1);
        x.damp(0, true);
        x.ill(1, true);
        x.turn(1);
        x.ill(1, false);
        c.fine(x, "on both", x.many(5), 4);
        x.turn(1);
        c.fine(x, "on the SHUT one it stays", x.page(0, 3), 1);
        c.fine(x, "on the other it goes", x.page(1, 3), 0);
        c.fine(x, "known", x.cell(1, 3), 1);
    }

    private static void rubsNotBlind() {
        c.says("Terms 2", "If it RUBS, and is not BLIND");
        MarginPlan x = Check.with("cell a pricks 9;cell b blind rubs;cell d;secret s letters 2;page p room 9;knows a s;");
        x.turn(2);
        c.fine(x, "a BLIND one that RUBS", x.page(0, 3), 1);
        x.turn(1);
        c.fine(x, "one that RUBS not", x.page(0, 3), 1);
        c.fine(x, "it knows", x.cell(2, 3), 1);
        x = Check.with("cell a pricks 9;cell b pricks 0 rubs;secret s letters 2;page p room 9;knows a s;");
        x.turn(2);
        c.fine(x, "one that RUBS and sees", x.page(0, 3), 0);
    }

    private static void rubbedOut() {
        c.says("Terms 2", "the first such SECRET is rubbed out: no PRICKS of it are there any more");
        MarginPlan x = Check.with("cell a pricks 9;cell b pricks 2 rubs;secret s letters 5;page p room 9;knows a s;");
        x.turn(2);
        c.fine(x, "begun anew by itself", x.pricks(0, 0), 2);
        c.fine(x, "it stands not", x.page(0, 3), 0);
        c.fine(x, "free", x.page(0, 2), 7);
        c.fine(x, "made in all", x.many(6), 7);
        x = Check.with("cell a pricks 9;cell b pricks 20 rubs;secret s letters 5;page p room 9;knows a s;");
        x.turn(2);
        c.fine(x, "all of it by itself", x.page(0, 3), 1);
        c.fine(x, "made by it", x.cell(1, 5), 5);
    }

    private static void pricksWhatItKnows() {
        c.says("Terms 2", "Then it PRICKS: of what it KNOWS, SECRET by SECRET");
        MarginPlan x = Check.with("cell a pricks 20;cell b pricks 20 blind;secret s letters 2;secret t letters 3;secret u letters 4;page p room 4;page q room 9;"
            + "knows a t;knows b s;");
        x.turn(1);
        c.fine(x, "t alone", dots(x, 0), 300);
        x.turn(1);
        // p has one FREE and is the first; that is all for s in this TURN.
        c.fine(x, "s by a BLIND one", dots(x, 0), 10300);
        MarginPlan by = Check.with("cell a pricks 5;secret s letters 2;secret t letters 3;secret u letters 4;page p room 9;knows a u;knows a s;knows a t;");
        by.turn(1);
        c.fine(by, "by their numbers, not as they are told", dots(by, 0), 20300);
        MarginPlan learns = Check.with("cell a pricks 20;cell b pricks 20;secret s letters 2;page p room 9;page q room 9;knows a s;");
        learns.turn(1);
        learns.damp(0, true);
        learns.turn(1);
        c.fine(learns, "what it does not know it does not prick", learns.many(5), 2);
    }

    private static void pricksWhatStandsNowhere() {
        c.says("Terms 2", "if it STANDS (then) on no PAGE that is not SHUT");
        MarginPlan x = Check.with("cell a pricks 20;secret s letters 3;page p room 9;page q room 9;page r room 9;knows a s;");
        x.turn(5);
        c.fine(x, "it stands on p", x.many(5), 3);
        x.damp(0, true);
        x.turn(5);
        c.fine(x, "on no open one: on q", x.pricks(1, 0), 3);
        c.fine(x, "then no more", x.many(5), 6);
        x.damp(1, true);
        x.damp(0, false);
        x.turn(5);
        c.fine(x, "p is open again", x.many(5), 6);
        x.damp(0, true);
        x.damp(2, true);
        x.turn(5);
        c.fine(x, "all are SHUT", x.many(5), 6);
        c.says("Terms 2", "(then)");
        x = Check.with("cell a pricks 9;cell b pricks 1 rubs;secret s letters 1;page p room 9;knows a s;");
        x.turn(2);
        c.fine(x, "rubbed out in this TURN, and pricked in it", x.cell(1, 5), 1);
        c.fine(x, "it stands", x.page(0, 3), 1);
    }

    private static void somethingFree() {
        c.says("Terms 2", "of those that are not SHUT and have something FREE");
        MarginPlan x = Check.with("cell a pricks 2;secret s letters 6;page p room 0;page q room 5;page r room 1;page t room 9;knows a s;");
        x.turn(2);
        c.fine(x, "not on one without ROOM", x.pricks(1, 0), 4);
        x.turn(1);
        c.fine(x, "on one that has one FREE", x.pricks(1, 0), 5);
        x.turn(1);
        c.fine(x, "not on the full one, though it has the most", x.pricks(2, 0), 1);
        x.turn(3);
        c.fine(x, "at last on t", x.page(3, 3), 1);
        c.fine(x, "12 in all", x.many(5), 12);
        MarginPlan none = Check.with("cell a pricks 2;secret s letters 6;page p room 3;page q room 0;knows a s;");
        none.turn(9);
        c.fine(none, "nothing FREE anywhere", none.many(6), 3);
    }

    private static void theMost() {
        c.says("Terms 2", "that with the most PRICKS of it, of several the first");
        MarginPlan x = Check.with("cell a pricks 2;secret s letters 9;secret t letters 9;page p room 9;page q room 20;page r room 9;knows a s;");
        x.turn(1);
        c.fine(x, "of three with none the first", x.pricks(0, 0), 2);
        x.damp(0, true);
        x.turn(1);
        c.fine(x, "of two with none the first", x.pricks(1, 0), 2);
        x.damp(0, false);
        x.turn(1);
        c.fine(x, "of two with two the first", x.pricks(0, 0), 4);
        x.damp(0, true);
        x.turn(2);
        c.fine(x, "q alone has some", x.pricks(1, 0), 6);
        x.damp(0, false);
        x.turn(1);
        c.fine(x, "the most, though not the first", x.pricks(1, 0), 8);
        MarginPlan other = Check.with("cell a pricks 3;secret s letters 9;secret t letters 2;page p room 9;page q room 9;knows a s;");
        other.damp(0, true);
        other.turn(1);
        other.damp(0, false);
        other.tell(0, 1);
        other.turn(3);
        c.fine(other, "PRICKS of it count, not of others", other.pricks(0, 1), 2);
    }

    private static void asManyAsLack() {
        c.says("Terms 2", "as many as lack there");
        MarginPlan x = Check.with("cell a pricks 4;secret s letters 4;secret t letters 3;page p room 60;knows a s;knows a t;");
        x.turn(1);
        c.fine(x, "just as many as it makes", dots(x, 0), 400);
        x.turn(1);
        c.fine(x, "one less than it makes", dots(x, 0), 403);
        c.fine(x, "the rest is not made", x.many(6), 7);
        MarginPlan y = Check.with("cell a pricks 4;secret s letters 5;secret t letters 3;page p room 60;knows a s;knows a t;");
        y.turn(2);
        c.fine(y, "one lacked; then the next SECRET", dots(y, 0), 503);
    }

    private static void asAreFree() {
        c.says("Terms 2", "as are FREE");
        MarginPlan x = Check.with("cell a pricks 9;secret s letters 4;secret t letters 4;page p room 7;page q room 1;knows a s;knows a t;");
        x.turn(1);
        c.fine(x, "of t three are FREE there", dots(x, 0), 403);
        c.fine(x, "nothing on q", dots(x, 1), 0);
        x.turn(1);
        c.fine(x, "then one on q", dots(x, 1), 1);
        x.turn(9);
        c.fine(x, "then nothing", x.many(6), 8);
        MarginPlan just = Check.with("cell a pricks 9;secret s letters 4;secret t letters 4;page p room 8;knows a s;knows a t;");
        just.turn(1);
        c.fine(just, "just as many as are FREE", just.page(0, 3), 3);
        c.fine(just, "full", just.page(0, 2), 0);
    }

    private static void asItHasLeft() {
        c.says("Terms 2", "as it has left in this TURN; then the next SECRET");
        MarginPlan x = Check.with("cell a pricks 7;cell b pricks 0;secret s letters 3;secret t letters 4;secret u letters 5;page p room 60;knows a s;knows a t;knows a u;");
        x.turn(1);
        c.fine(x, "two and nothing left", dots(x, 0), 30400);
        x.turn(1);
        c.fine(x, "none by 0", x.many(6), 7);
        x.turn(1);
        c.fine(x, "anew in each TURN", dots(x, 0), 30405);
        MarginPlan y = Check.with("cell a pricks 8;secret s letters 3;secret t letters 4;secret u letters 5;page p room 60;knows a s;knows a t;knows a u;");
        y.turn(1);
        c.fine(y, "one left for the third", dots(y, 0), 30401);
    }

    private static void onOnePage() {
        c.says("Terms 2", "PRICKS on one PAGE");
        MarginPlan x = Check.with("cell a pricks 9;secret s letters 4;secret t letters 2;page p room 3;page q room 9;knows a s;knows a t;");
        x.turn(1);
        c.fine(x, "three on p", dots(x, 0), 300);
        c.fine(x, "none of s on q, t there", dots(x, 1), 2);
        x.turn(1);
        c.fine(x, "s on q", dots(x, 1), 402);
    }

    private static void mostTurns() {
        c.says("Terms 2", "(9,999 TURNS at most.)");
        MarginPlan x = Check.with("cell a;cell b;");
        for (int i = 0; i < 100; i++) {
            x.turn(99);
        }
        c.fine(x, "99 hundreds", x.many(4), 9900);
        c.fine(x, "just 9,999", x.turn(99), 9999);
        c.refused(x, "one more", x.turn(1), 7);
        c.refused(x, "99 more", x.turn(99), 7);
        c.fine(x, "as it was", x.many(4), 9999);
        c.fine(x, "b has it", x.next(), 1);
        MarginPlan y = Check.with("cell a;cell b;");
        for (int i = 0; i < 100; i++) {
            y.turn(99);
        }
        y.turn(98);
        c.refused(y, "10,000 by two", y.turn(2), 7);
        c.fine(y, "none of these was done", y.many(4), 9998);
        c.fine(y, "9,999 by one", y.turn(1), 9999);
        Check.book(y, "cell a;");
        c.fine(y, "a BOOK anew begins with TURN 0", y.turn(1), 1);
    }

    private static void rub() {
        c.says("Terms 2", "RUB a PAGE: no PRICKS are on it.");
        MarginPlan x = Check.with("cell a pricks 20;secret s letters 3;secret t letters 4;page p room 6;page q room 4;knows a s;knows a t;");
        x.turn(2);
        c.fine(x, "on p", dots(x, 0), 303);
        c.fine(x, "on q", dots(x, 1), 4);
        c.fine(x, "rub", x.rub(0), 6);
        c.fine(x, "on p", dots(x, 0), 0);
        c.fine(x, "nothing stands", x.page(0, 3), 0);
        c.fine(x, "free", x.page(0, 2), 6);
        c.fine(x, "on q", dots(x, 1), 4);
        c.fine(x, "what is known is known", x.cell(0, 3), 3);
        x.turn(1);
        c.fine(x, "pricked anew, t stands on q", dots(x, 0), 300);
    }

    private static void damp() {
        c.says("Terms 2", "DAMP: a PAGE is SHUT; DRY: it is open.");
        MarginPlan x = Check.with(Texts.pages(6, 3));
        for (int page = 5; page >= 0; page--) {
            c.fine(x, "damp", x.damp(page, true));
            c.fine(x, "shut", x.many(8), 64 - (1 << page));
        }
        for (int page = 0; page < 6; page++) {
            c.fine(x, "dry", x.damp(page, false));
            c.fine(x, "shut", x.many(8), 64 - (2 << page));
        }
    }

    private static void ill() {
        c.says("Terms 2", "ILL, WELL: a CELL.");
        MarginPlan x = Check.with(Texts.cells(8, ""));
        for (int cell = 7; cell >= 0; cell--) {
            c.fine(x, "ill", x.ill(cell, true));
            c.fine(x, "ill are", x.many(7), 256 - (1 << cell));
        }
        for (int cell = 0; cell < 8; cell++) {
            c.fine(x, "well", x.ill(cell, false));
            c.fine(x, "ill are", x.many(7), 256 - (2 << cell));
        }
    }

    private static void move() {
        c.says("Terms 2", "MOVE: a CELL changes its place in the ORDER with another one.");
        MarginPlan x = Check.with(Texts.cells(8, ""));
        c.fine(x, "the first and the last", x.move(0, 7));
        c.fine(x, "first", x.orderAt(0), 7);
        c.fine(x, "last", x.orderAt(7), 0);
        c.fine(x, "place of 7", x.cell(7, 4), 0);
        c.fine(x, "place of 0", x.cell(0, 4), 7);
        for (int k = 1; k < 7; k++) {
            c.fine(x, "place " + k, x.orderAt(k), k);
        }
        c.fine(x, "back", x.move(0, 7));
        c.fine(x, "first", x.orderAt(0), 0);
        x.turn(1);
        c.fine(x, "the one that had it and the next", x.move(0, 1));
        c.fine(x, "the book goes on behind that place", x.next(), 0);
    }

    private static void tell() {
        c.says("Terms 2", "TELL: a CELL KNOWS a SECRET.");
        MarginPlan x = Check.with("cell a blind;" + Texts.cells(8, "").substring(7) + Texts.secrets(6, 3));
        c.fine(x, "the last of each", x.tell(7, 5));
        c.fine(x, "it knows it", x.cell(7, 3), 32);
        c.fine(x, "a BLIND one", x.tell(0, 0));
        c.fine(x, "it knows it", x.cell(0, 3), 1);
        c.fine(x, "nobody else", x.knowers(0), 1);
        c.fine(x, "nobody else", x.knowers(5), 128);
    }
}
